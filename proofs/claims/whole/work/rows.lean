section
/-- a private method of a class that the tables say can be made, by its rows of tables_1 -/
def lw_okq (q : MethodName × Nat) : Prop := (q.1.cls ≠ "java/lang/invoke/MethodHandle" ∧ q.1.cls ≠ "java/lang/invoke/VarHandle") ∧ Cond.instantiable q.1.cls q.2 ∈ tables_1 ∧ Cond.privateMethod q.1 ∈ tables_1 ∧ Cond.instanceMethod q.1 ∈ tables_1
theorem lw_p0 : lw_okq (⟨"Opticmesh", "wavelengthsUsed", "(ILOpticmesh$Light;)I"⟩, 8) := ⟨⟨by decide +kernel, by decide +kernel⟩, List.mem_of_getElem? (i := 17) (by decide +kernel), List.mem_of_getElem? (i := 226) (by decide +kernel), List.mem_of_getElem? (i := 227) (by decide +kernel)⟩
theorem lw_p1 : lw_okq (⟨"Opticmesh$Colouring", "waysOnBusiestFibre", "()I"⟩, 3) := ⟨⟨by decide +kernel, by decide +kernel⟩, List.mem_of_getElem? (i := 144) (by decide +kernel), List.mem_of_getElem? (i := 284) (by decide +kernel), List.mem_of_getElem? (i := 285) (by decide +kernel)⟩
theorem lw_p2 : lw_okq (⟨"Opticmesh$Colouring", "canPaint", "(IIII)Z"⟩, 3) := ⟨⟨by decide +kernel, by decide +kernel⟩, List.mem_of_getElem? (i := 144) (by decide +kernel), List.mem_of_getElem? (i := 289) (by decide +kernel), List.mem_of_getElem? (i := 290) (by decide +kernel)⟩
theorem lw_p3 : lw_okq (⟨"Opticmesh$Colouring", "mostBarred", "(II)I"⟩, 3) := ⟨⟨by decide +kernel, by decide +kernel⟩, List.mem_of_getElem? (i := 144) (by decide +kernel), List.mem_of_getElem? (i := 293) (by decide +kernel), List.mem_of_getElem? (i := 294) (by decide +kernel)⟩
theorem lw_p4 : lw_okq (⟨"java/lang/Throwable", "fillInStackTrace", "(I)Ljava/lang/Throwable;"⟩, 6) := ⟨⟨by decide +kernel, by decide +kernel⟩, List.mem_of_getElem? (i := 343) (by decide +kernel), List.mem_of_getElem? (i := 341) (by decide +kernel), List.mem_of_getElem? (i := 342) (by decide +kernel)⟩
theorem lw_p5 : lw_okq (⟨"Opticmesh", "areTwoNodes", "(II)Z"⟩, 8) := ⟨⟨by decide +kernel, by decide +kernel⟩, List.mem_of_getElem? (i := 17) (by decide +kernel), List.mem_of_getElem? (i := 385) (by decide +kernel), List.mem_of_getElem? (i := 386) (by decide +kernel)⟩
theorem lw_p6 : lw_okq (⟨"Opticmesh", "requireFibre", "(I)V"⟩, 8) := ⟨⟨by decide +kernel, by decide +kernel⟩, List.mem_of_getElem? (i := 17) (by decide +kernel), List.mem_of_getElem? (i := 430) (by decide +kernel), List.mem_of_getElem? (i := 431) (by decide +kernel)⟩
theorem lw_p7 : lw_okq (⟨"Opticmesh", "lightsUp", "()I"⟩, 8) := ⟨⟨by decide +kernel, by decide +kernel⟩, List.mem_of_getElem? (i := 17) (by decide +kernel), List.mem_of_getElem? (i := 459) (by decide +kernel), List.mem_of_getElem? (i := 460) (by decide +kernel)⟩
theorem lw_p8 : lw_okq (⟨"Opticmesh", "lightWithRoom", "(IIIZ)LOpticmesh$Light;"⟩, 8) := ⟨⟨by decide +kernel, by decide +kernel⟩, List.mem_of_getElem? (i := 17) (by decide +kernel), List.mem_of_getElem? (i := 503) (by decide +kernel), List.mem_of_getElem? (i := 504) (by decide +kernel)⟩
theorem lw_p9 : lw_okq (⟨"Opticmesh", "findWays", "(III)V"⟩, 8) := ⟨⟨by decide +kernel, by decide +kernel⟩, List.mem_of_getElem? (i := 17) (by decide +kernel), List.mem_of_getElem? (i := 511) (by decide +kernel), List.mem_of_getElem? (i := 512) (by decide +kernel)⟩
theorem lw_p10 : lw_okq (⟨"Opticmesh", "openChannels", "(LOpticmesh$Light;)V"⟩, 8) := ⟨⟨by decide +kernel, by decide +kernel⟩, List.mem_of_getElem? (i := 17) (by decide +kernel), List.mem_of_getElem? (i := 515) (by decide +kernel), List.mem_of_getElem? (i := 516) (by decide +kernel)⟩
theorem lw_p11 : lw_okq (⟨"Opticmesh$WayFinder", "aim", "(III)V"⟩, 13) := ⟨⟨by decide +kernel, by decide +kernel⟩, List.mem_of_getElem? (i := 62) (by decide +kernel), List.mem_of_getElem? (i := 523) (by decide +kernel), List.mem_of_getElem? (i := 524) (by decide +kernel)⟩
theorem lw_p12 : lw_okq (⟨"Opticmesh$WayFinder", "walk", "(IIIII)V"⟩, 13) := ⟨⟨by decide +kernel, by decide +kernel⟩, List.mem_of_getElem? (i := 62) (by decide +kernel), List.mem_of_getElem? (i := 527) (by decide +kernel), List.mem_of_getElem? (i := 528) (by decide +kernel)⟩
theorem lw_p13 : lw_okq (⟨"Opticmesh$WayFinder", "keep", "(II)V"⟩, 13) := ⟨⟨by decide +kernel, by decide +kernel⟩, List.mem_of_getElem? (i := 62) (by decide +kernel), List.mem_of_getElem? (i := 531) (by decide +kernel), List.mem_of_getElem? (i := 532) (by decide +kernel)⟩
theorem lw_p14 : lw_okq (⟨"Opticmesh$WayFinder", "countConversionsBackwards", "(I)V"⟩, 13) := ⟨⟨by decide +kernel, by decide +kernel⟩, List.mem_of_getElem? (i := 62) (by decide +kernel), List.mem_of_getElem? (i := 535) (by decide +kernel), List.mem_of_getElem? (i := 536) (by decide +kernel)⟩
theorem lw_p15 : lw_okq (⟨"Opticmesh$WayFinder", "leadingOn", "(III)I"⟩, 13) := ⟨⟨by decide +kernel, by decide +kernel⟩, List.mem_of_getElem? (i := 62) (by decide +kernel), List.mem_of_getElem? (i := 539) (by decide +kernel), List.mem_of_getElem? (i := 540) (by decide +kernel)⟩
def lw_privs_1 : List (MethodName × Nat) := [(⟨"Opticmesh", "wavelengthsUsed", "(ILOpticmesh$Light;)I"⟩, 8), (⟨"Opticmesh$Colouring", "waysOnBusiestFibre", "()I"⟩, 3), (⟨"Opticmesh$Colouring", "canPaint", "(IIII)Z"⟩, 3), (⟨"Opticmesh$Colouring", "mostBarred", "(II)I"⟩, 3), (⟨"java/lang/Throwable", "fillInStackTrace", "(I)Ljava/lang/Throwable;"⟩, 6), (⟨"Opticmesh", "areTwoNodes", "(II)Z"⟩, 8), (⟨"Opticmesh", "requireFibre", "(I)V"⟩, 8), (⟨"Opticmesh", "lightsUp", "()I"⟩, 8), (⟨"Opticmesh", "lightWithRoom", "(IIIZ)LOpticmesh$Light;"⟩, 8), (⟨"Opticmesh", "findWays", "(III)V"⟩, 8), (⟨"Opticmesh", "openChannels", "(LOpticmesh$Light;)V"⟩, 8), (⟨"Opticmesh$WayFinder", "aim", "(III)V"⟩, 13), (⟨"Opticmesh$WayFinder", "walk", "(IIIII)V"⟩, 13), (⟨"Opticmesh$WayFinder", "keep", "(II)V"⟩, 13), (⟨"Opticmesh$WayFinder", "countConversionsBackwards", "(I)V"⟩, 13), (⟨"Opticmesh$WayFinder", "leadingOn", "(III)I"⟩, 13)]
theorem lw_r1 : ∀ q ∈ lw_privs_1, lw_okq q := List.forall_mem_cons.mpr ⟨lw_p0, List.forall_mem_cons.mpr ⟨lw_p1, List.forall_mem_cons.mpr ⟨lw_p2, List.forall_mem_cons.mpr ⟨lw_p3, List.forall_mem_cons.mpr ⟨lw_p4, List.forall_mem_cons.mpr ⟨lw_p5, List.forall_mem_cons.mpr ⟨lw_p6, List.forall_mem_cons.mpr ⟨lw_p7, List.forall_mem_cons.mpr ⟨lw_p8, List.forall_mem_cons.mpr ⟨lw_p9, List.forall_mem_cons.mpr ⟨lw_p10, List.forall_mem_cons.mpr ⟨lw_p11, List.forall_mem_cons.mpr ⟨lw_p12, List.forall_mem_cons.mpr ⟨lw_p13, List.forall_mem_cons.mpr ⟨lw_p14, List.forall_mem_cons.mpr ⟨lw_p15, fun _ h => absurd h List.not_mem_nil⟩⟩⟩⟩⟩⟩⟩⟩⟩⟩⟩⟩⟩⟩⟩⟩
theorem lw_p16 : lw_okq (⟨"Opticmesh$WayFinder", "takeLowestWavelengths", "(LOpticmesh$Way;II)V"⟩, 13) := ⟨⟨by decide +kernel, by decide +kernel⟩, List.mem_of_getElem? (i := 62) (by decide +kernel), List.mem_of_getElem? (i := 547) (by decide +kernel), List.mem_of_getElem? (i := 548) (by decide +kernel)⟩
theorem lw_p17 : lw_okq (⟨"Opticmesh$WayFinder", "pickFirst", "()V"⟩, 13) := ⟨⟨by decide +kernel, by decide +kernel⟩, List.mem_of_getElem? (i := 62) (by decide +kernel), List.mem_of_getElem? (i := 567) (by decide +kernel), List.mem_of_getElem? (i := 568) (by decide +kernel)⟩
theorem lw_p18 : lw_okq (⟨"Opticmesh$WayFinder", "offerPair", "(LOpticmesh$Way;LOpticmesh$Way;)V"⟩, 13) := ⟨⟨by decide +kernel, by decide +kernel⟩, List.mem_of_getElem? (i := 62) (by decide +kernel), List.mem_of_getElem? (i := 583) (by decide +kernel), List.mem_of_getElem? (i := 584) (by decide +kernel)⟩
theorem lw_p19 : lw_okq (⟨"Opticmesh", "lightOnFoundWays", "(II)LOpticmesh$Light;"⟩, 8) := ⟨⟨by decide +kernel, by decide +kernel⟩, List.mem_of_getElem? (i := 17) (by decide +kernel), List.mem_of_getElem? (i := 590) (by decide +kernel), List.mem_of_getElem? (i := 591) (by decide +kernel)⟩
theorem lw_p20 : lw_okq (⟨"Opticmesh", "livingLights", "()I"⟩, 8) := ⟨⟨by decide +kernel, by decide +kernel⟩, List.mem_of_getElem? (i := 17) (by decide +kernel), List.mem_of_getElem? (i := 595) (by decide +kernel), List.mem_of_getElem? (i := 596) (by decide +kernel)⟩
theorem lw_p21 : lw_okq (⟨"Opticmesh", "carrierOf", "(I)LOpticmesh$Light;"⟩, 8) := ⟨⟨by decide +kernel, by decide +kernel⟩, List.mem_of_getElem? (i := 17) (by decide +kernel), List.mem_of_getElem? (i := 623) (by decide +kernel), List.mem_of_getElem? (i := 624) (by decide +kernel)⟩
theorem lw_p22 : lw_okq (⟨"Opticmesh", "existingLight", "(I)LOpticmesh$Light;"⟩, 8) := ⟨⟨by decide +kernel, by decide +kernel⟩, List.mem_of_getElem? (i := 17) (by decide +kernel), List.mem_of_getElem? (i := 643) (by decide +kernel), List.mem_of_getElem? (i := 644) (by decide +kernel)⟩
theorem lw_p23 : lw_okq (⟨"Opticmesh", "wayOf", "(II)LOpticmesh$Way;"⟩, 8) := ⟨⟨by decide +kernel, by decide +kernel⟩, List.mem_of_getElem? (i := 17) (by decide +kernel), List.mem_of_getElem? (i := 662) (by decide +kernel), List.mem_of_getElem? (i := 663) (by decide +kernel)⟩
theorem lw_p24 : lw_okq (⟨"Opticmesh", "canMerge", "(LOpticmesh$Light;LOpticmesh$Light;)Z"⟩, 8) := ⟨⟨by decide +kernel, by decide +kernel⟩, List.mem_of_getElem? (i := 17) (by decide +kernel), List.mem_of_getElem? (i := 697) (by decide +kernel), List.mem_of_getElem? (i := 698) (by decide +kernel)⟩
theorem lw_p25 : lw_okq (⟨"Opticmesh", "handOver", "(LOpticmesh$Light;LOpticmesh$Light;)V"⟩, 8) := ⟨⟨by decide +kernel, by decide +kernel⟩, List.mem_of_getElem? (i := 17) (by decide +kernel), List.mem_of_getElem? (i := 701) (by decide +kernel), List.mem_of_getElem? (i := 702) (by decide +kernel)⟩
theorem lw_p26 : lw_okq (⟨"Opticmesh", "lowerWavelength", "(LOpticmesh$Way;)Z"⟩, 8) := ⟨⟨by decide +kernel, by decide +kernel⟩, List.mem_of_getElem? (i := 17) (by decide +kernel), List.mem_of_getElem? (i := 713) (by decide +kernel), List.mem_of_getElem? (i := 714) (by decide +kernel)⟩
theorem lw_p27 : lw_okq (⟨"OpticmeshModel", "empties", "()V"⟩, 28) := ⟨⟨by decide +kernel, by decide +kernel⟩, List.mem_of_getElem? (i := 729) (by decide +kernel), List.mem_of_getElem? (i := 735) (by decide +kernel), List.mem_of_getElem? (i := 736) (by decide +kernel)⟩
theorem lw_p28 : lw_okq (⟨"OpticmeshModel", "holds", "(I)Z"⟩, 28) := ⟨⟨by decide +kernel, by decide +kernel⟩, List.mem_of_getElem? (i := 729) (by decide +kernel), List.mem_of_getElem? (i := 835) (by decide +kernel), List.mem_of_getElem? (i := 836) (by decide +kernel)⟩
theorem lw_p29 : lw_okq (⟨"OpticmeshModel", "areTwo", "(II)Z"⟩, 28) := ⟨⟨by decide +kernel, by decide +kernel⟩, List.mem_of_getElem? (i := 729) (by decide +kernel), List.mem_of_getElem? (i := 843) (by decide +kernel), List.mem_of_getElem? (i := 844) (by decide +kernel)⟩
theorem lw_p30 : lw_okq (⟨"OpticmeshModel", "isFibre", "(I)Z"⟩, 28) := ⟨⟨by decide +kernel, by decide +kernel⟩, List.mem_of_getElem? (i := 729) (by decide +kernel), List.mem_of_getElem? (i := 855) (by decide +kernel), List.mem_of_getElem? (i := 856) (by decide +kernel)⟩
theorem lw_p31 : lw_okq (⟨"OpticmeshModel", "numberOfUp", "()I"⟩, 28) := ⟨⟨by decide +kernel, by decide +kernel⟩, List.mem_of_getElem? (i := 729) (by decide +kernel), List.mem_of_getElem? (i := 859) (by decide +kernel), List.mem_of_getElem? (i := 860) (by decide +kernel)⟩
def lw_privs_2 : List (MethodName × Nat) := [(⟨"Opticmesh$WayFinder", "takeLowestWavelengths", "(LOpticmesh$Way;II)V"⟩, 13), (⟨"Opticmesh$WayFinder", "pickFirst", "()V"⟩, 13), (⟨"Opticmesh$WayFinder", "offerPair", "(LOpticmesh$Way;LOpticmesh$Way;)V"⟩, 13), (⟨"Opticmesh", "lightOnFoundWays", "(II)LOpticmesh$Light;"⟩, 8), (⟨"Opticmesh", "livingLights", "()I"⟩, 8), (⟨"Opticmesh", "carrierOf", "(I)LOpticmesh$Light;"⟩, 8), (⟨"Opticmesh", "existingLight", "(I)LOpticmesh$Light;"⟩, 8), (⟨"Opticmesh", "wayOf", "(II)LOpticmesh$Way;"⟩, 8), (⟨"Opticmesh", "canMerge", "(LOpticmesh$Light;LOpticmesh$Light;)Z"⟩, 8), (⟨"Opticmesh", "handOver", "(LOpticmesh$Light;LOpticmesh$Light;)V"⟩, 8), (⟨"Opticmesh", "lowerWavelength", "(LOpticmesh$Way;)Z"⟩, 8), (⟨"OpticmeshModel", "empties", "()V"⟩, 28), (⟨"OpticmeshModel", "holds", "(I)Z"⟩, 28), (⟨"OpticmeshModel", "areTwo", "(II)Z"⟩, 28), (⟨"OpticmeshModel", "isFibre", "(I)Z"⟩, 28), (⟨"OpticmeshModel", "numberOfUp", "()I"⟩, 28)]
theorem lw_r2 : ∀ q ∈ lw_privs_2, lw_okq q := List.forall_mem_cons.mpr ⟨lw_p16, List.forall_mem_cons.mpr ⟨lw_p17, List.forall_mem_cons.mpr ⟨lw_p18, List.forall_mem_cons.mpr ⟨lw_p19, List.forall_mem_cons.mpr ⟨lw_p20, List.forall_mem_cons.mpr ⟨lw_p21, List.forall_mem_cons.mpr ⟨lw_p22, List.forall_mem_cons.mpr ⟨lw_p23, List.forall_mem_cons.mpr ⟨lw_p24, List.forall_mem_cons.mpr ⟨lw_p25, List.forall_mem_cons.mpr ⟨lw_p26, List.forall_mem_cons.mpr ⟨lw_p27, List.forall_mem_cons.mpr ⟨lw_p28, List.forall_mem_cons.mpr ⟨lw_p29, List.forall_mem_cons.mpr ⟨lw_p30, List.forall_mem_cons.mpr ⟨lw_p31, fun _ h => absurd h List.not_mem_nil⟩⟩⟩⟩⟩⟩⟩⟩⟩⟩⟩⟩⟩⟩⟩⟩
theorem lw_p32 : lw_okq (⟨"OpticmeshModel", "isUp", "(I)Z"⟩, 28) := ⟨⟨by decide +kernel, by decide +kernel⟩, List.mem_of_getElem? (i := 729) (by decide +kernel), List.mem_of_getElem? (i := 863) (by decide +kernel), List.mem_of_getElem? (i := 864) (by decide +kernel)⟩
theorem lw_p33 : lw_okq (⟨"OpticmeshModel", "way", "(III)I"⟩, 28) := ⟨⟨by decide +kernel, by decide +kernel⟩, List.mem_of_getElem? (i := 729) (by decide +kernel), List.mem_of_getElem? (i := 867) (by decide +kernel), List.mem_of_getElem? (i := 868) (by decide +kernel)⟩
theorem lw_p34 : lw_okq (⟨"OpticmeshModel", "usedOn", "(I)I"⟩, 28) := ⟨⟨by decide +kernel, by decide +kernel⟩, List.mem_of_getElem? (i := 729) (by decide +kernel), List.mem_of_getElem? (i := 883) (by decide +kernel), List.mem_of_getElem? (i := 884) (by decide +kernel)⟩
theorem lw_p35 : lw_okq (⟨"OpticmeshModel", "roomFor", "(IIII)I"⟩, 28) := ⟨⟨by decide +kernel, by decide +kernel⟩, List.mem_of_getElem? (i := 729) (by decide +kernel), List.mem_of_getElem? (i := 895) (by decide +kernel), List.mem_of_getElem? (i := 896) (by decide +kernel)⟩
theorem lw_p36 : lw_okq (⟨"OpticmeshModel", "haveSameEnds", "(III)Z"⟩, 28) := ⟨⟨by decide +kernel, by decide +kernel⟩, List.mem_of_getElem? (i := 729) (by decide +kernel), List.mem_of_getElem? (i := 899) (by decide +kernel), List.mem_of_getElem? (i := 900) (by decide +kernel)⟩
theorem lw_p37 : lw_okq (⟨"OpticmeshModel", "carried", "(I)I"⟩, 28) := ⟨⟨by decide +kernel, by decide +kernel⟩, List.mem_of_getElem? (i := 729) (by decide +kernel), List.mem_of_getElem? (i := 903) (by decide +kernel), List.mem_of_getElem? (i := 904) (by decide +kernel)⟩
theorem lw_p38 : lw_okq (⟨"OpticmeshModel", "numberOfLights", "()I"⟩, 28) := ⟨⟨by decide +kernel, by decide +kernel⟩, List.mem_of_getElem? (i := 729) (by decide +kernel), List.mem_of_getElem? (i := 907) (by decide +kernel), List.mem_of_getElem? (i := 908) (by decide +kernel)⟩
theorem lw_p39 : lw_okq (⟨"OpticmeshModel", "findsBy", "(III)Z"⟩, 28) := ⟨⟨by decide +kernel, by decide +kernel⟩, List.mem_of_getElem? (i := 729) (by decide +kernel), List.mem_of_getElem? (i := 911) (by decide +kernel), List.mem_of_getElem? (i := 912) (by decide +kernel)⟩
theorem lw_p40 : lw_okq (⟨"OpticmeshModel", "finds", "(IIII)Z"⟩, 28) := ⟨⟨by decide +kernel, by decide +kernel⟩, List.mem_of_getElem? (i := 729) (by decide +kernel), List.mem_of_getElem? (i := 915) (by decide +kernel), List.mem_of_getElem? (i := 916) (by decide +kernel)⟩
theorem lw_p41 : lw_okq (⟨"OpticmeshModel", "goesOn", "([III)Z"⟩, 28) := ⟨⟨by decide +kernel, by decide +kernel⟩, List.mem_of_getElem? (i := 729) (by decide +kernel), List.mem_of_getElem? (i := 922) (by decide +kernel), List.mem_of_getElem? (i := 923) (by decide +kernel)⟩
theorem lw_p42 : lw_okq (⟨"OpticmeshModel", "isStep", "([II)Z"⟩, 28) := ⟨⟨by decide +kernel, by decide +kernel⟩, List.mem_of_getElem? (i := 729) (by decide +kernel), List.mem_of_getElem? (i := 926) (by decide +kernel), List.mem_of_getElem? (i := 927) (by decide +kernel)⟩
theorem lw_p43 : lw_okq (⟨"OpticmeshModel", "lays", "([III[I)Z"⟩, 28) := ⟨⟨by decide +kernel, by decide +kernel⟩, List.mem_of_getElem? (i := 729) (by decide +kernel), List.mem_of_getElem? (i := 930) (by decide +kernel), List.mem_of_getElem? (i := 931) (by decide +kernel)⟩
theorem lw_p44 : lw_okq (⟨"OpticmeshModel", "free", "(II)I"⟩, 28) := ⟨⟨by decide +kernel, by decide +kernel⟩, List.mem_of_getElem? (i := 729) (by decide +kernel), List.mem_of_getElem? (i := 934) (by decide +kernel), List.mem_of_getElem? (i := 935) (by decide +kernel)⟩
theorem lw_p45 : lw_okq (⟨"OpticmeshModel", "cost", "([IIII)I"⟩, 28) := ⟨⟨by decide +kernel, by decide +kernel⟩, List.mem_of_getElem? (i := 729) (by decide +kernel), List.mem_of_getElem? (i := 938) (by decide +kernel), List.mem_of_getElem? (i := 939) (by decide +kernel)⟩
theorem lw_p46 : lw_okq (⟨"OpticmeshModel", "follows", "([III)I"⟩, 28) := ⟨⟨by decide +kernel, by decide +kernel⟩, List.mem_of_getElem? (i := 729) (by decide +kernel), List.mem_of_getElem? (i := 942) (by decide +kernel), List.mem_of_getElem? (i := 943) (by decide +kernel)⟩
theorem lw_p47 : lw_okq (⟨"OpticmeshModel", "findsOneWavelength", "(II)Z"⟩, 28) := ⟨⟨by decide +kernel, by decide +kernel⟩, List.mem_of_getElem? (i := 729) (by decide +kernel), List.mem_of_getElem? (i := 952) (by decide +kernel), List.mem_of_getElem? (i := 953) (by decide +kernel)⟩
def lw_privs_3 : List (MethodName × Nat) := [(⟨"OpticmeshModel", "isUp", "(I)Z"⟩, 28), (⟨"OpticmeshModel", "way", "(III)I"⟩, 28), (⟨"OpticmeshModel", "usedOn", "(I)I"⟩, 28), (⟨"OpticmeshModel", "roomFor", "(IIII)I"⟩, 28), (⟨"OpticmeshModel", "haveSameEnds", "(III)Z"⟩, 28), (⟨"OpticmeshModel", "carried", "(I)I"⟩, 28), (⟨"OpticmeshModel", "numberOfLights", "()I"⟩, 28), (⟨"OpticmeshModel", "findsBy", "(III)Z"⟩, 28), (⟨"OpticmeshModel", "finds", "(IIII)Z"⟩, 28), (⟨"OpticmeshModel", "goesOn", "([III)Z"⟩, 28), (⟨"OpticmeshModel", "isStep", "([II)Z"⟩, 28), (⟨"OpticmeshModel", "lays", "([III[I)Z"⟩, 28), (⟨"OpticmeshModel", "free", "(II)I"⟩, 28), (⟨"OpticmeshModel", "cost", "([IIII)I"⟩, 28), (⟨"OpticmeshModel", "follows", "([III)I"⟩, 28), (⟨"OpticmeshModel", "findsOneWavelength", "(II)Z"⟩, 28)]
theorem lw_r3 : ∀ q ∈ lw_privs_3, lw_okq q := List.forall_mem_cons.mpr ⟨lw_p32, List.forall_mem_cons.mpr ⟨lw_p33, List.forall_mem_cons.mpr ⟨lw_p34, List.forall_mem_cons.mpr ⟨lw_p35, List.forall_mem_cons.mpr ⟨lw_p36, List.forall_mem_cons.mpr ⟨lw_p37, List.forall_mem_cons.mpr ⟨lw_p38, List.forall_mem_cons.mpr ⟨lw_p39, List.forall_mem_cons.mpr ⟨lw_p40, List.forall_mem_cons.mpr ⟨lw_p41, List.forall_mem_cons.mpr ⟨lw_p42, List.forall_mem_cons.mpr ⟨lw_p43, List.forall_mem_cons.mpr ⟨lw_p44, List.forall_mem_cons.mpr ⟨lw_p45, List.forall_mem_cons.mpr ⟨lw_p46, List.forall_mem_cons.mpr ⟨lw_p47, fun _ h => absurd h List.not_mem_nil⟩⟩⟩⟩⟩⟩⟩⟩⟩⟩⟩⟩⟩⟩⟩⟩
theorem lw_p48 : lw_okq (⟨"OpticmeshModel", "findsPair", "(II)Z"⟩, 28) := ⟨⟨by decide +kernel, by decide +kernel⟩, List.mem_of_getElem? (i := 729) (by decide +kernel), List.mem_of_getElem? (i := 956) (by decide +kernel), List.mem_of_getElem? (i := 957) (by decide +kernel)⟩
theorem lw_p49 : lw_okq (⟨"OpticmeshModel", "laysOne", "([I[I)Z"⟩, 28) := ⟨⟨by decide +kernel, by decide +kernel⟩, List.mem_of_getElem? (i := 729) (by decide +kernel), List.mem_of_getElem? (i := 960) (by decide +kernel), List.mem_of_getElem? (i := 961) (by decide +kernel)⟩
theorem lw_p50 : lw_okq (⟨"OpticmeshModel", "isBetterPair", "()Z"⟩, 28) := ⟨⟨by decide +kernel, by decide +kernel⟩, List.mem_of_getElem? (i := 729) (by decide +kernel), List.mem_of_getElem? (i := 964) (by decide +kernel), List.mem_of_getElem? (i := 965) (by decide +kernel)⟩
theorem lw_p51 : lw_okq (⟨"OpticmeshModel", "makes", "(III)I"⟩, 28) := ⟨⟨by decide +kernel, by decide +kernel⟩, List.mem_of_getElem? (i := 729) (by decide +kernel), List.mem_of_getElem? (i := 968) (by decide +kernel), List.mem_of_getElem? (i := 969) (by decide +kernel)⟩
theorem lw_p52 : lw_okq (⟨"OpticmeshModel", "gets", "(II[I)V"⟩, 28) := ⟨⟨by decide +kernel, by decide +kernel⟩, List.mem_of_getElem? (i := 729) (by decide +kernel), List.mem_of_getElem? (i := 972) (by decide +kernel), List.mem_of_getElem? (i := 973) (by decide +kernel)⟩
theorem lw_p53 : lw_okq (⟨"OpticmeshModel", "uses", "(III)V"⟩, 28) := ⟨⟨by decide +kernel, by decide +kernel⟩, List.mem_of_getElem? (i := 729) (by decide +kernel), List.mem_of_getElem? (i := 976) (by decide +kernel), List.mem_of_getElem? (i := 977) (by decide +kernel)⟩
theorem lw_p54 : lw_okq (⟨"OpticmeshModel", "errorOfRequest", "(I)I"⟩, 28) := ⟨⟨by decide +kernel, by decide +kernel⟩, List.mem_of_getElem? (i := 729) (by decide +kernel), List.mem_of_getElem? (i := 991) (by decide +kernel), List.mem_of_getElem? (i := 992) (by decide +kernel)⟩
theorem lw_p55 : lw_okq (⟨"OpticmeshModel", "ends", "(I)V"⟩, 28) := ⟨⟨by decide +kernel, by decide +kernel⟩, List.mem_of_getElem? (i := 729) (by decide +kernel), List.mem_of_getElem? (i := 995) (by decide +kernel), List.mem_of_getElem? (i := 996) (by decide +kernel)⟩
theorem lw_p56 : lw_okq (⟨"OpticmeshModel", "isLight", "(I)Z"⟩, 28) := ⟨⟨by decide +kernel, by decide +kernel⟩, List.mem_of_getElem? (i := 729) (by decide +kernel), List.mem_of_getElem? (i := 1015) (by decide +kernel), List.mem_of_getElem? (i := 1016) (by decide +kernel)⟩
theorem lw_p57 : lw_okq (⟨"OpticmeshModel", "isWay", "(II)Z"⟩, 28) := ⟨⟨by decide +kernel, by decide +kernel⟩, List.mem_of_getElem? (i := 729) (by decide +kernel), List.mem_of_getElem? (i := 1027) (by decide +kernel), List.mem_of_getElem? (i := 1028) (by decide +kernel)⟩
theorem lw_p58 : lw_okq (⟨"OpticmeshModel", "areMergeable", "(II)Z"⟩, 28) := ⟨⟨by decide +kernel, by decide +kernel⟩, List.mem_of_getElem? (i := 729) (by decide +kernel), List.mem_of_getElem? (i := 1043) (by decide +kernel), List.mem_of_getElem? (i := 1044) (by decide +kernel)⟩
theorem lw_p59 : lw_okq (⟨"OpticmeshModel", "takesOver", "(II)V"⟩, 28) := ⟨⟨by decide +kernel, by decide +kernel⟩, List.mem_of_getElem? (i := 729) (by decide +kernel), List.mem_of_getElem? (i := 1047) (by decide +kernel), List.mem_of_getElem? (i := 1048) (by decide +kernel)⟩
theorem lw_p60 : lw_okq (⟨"OpticmeshModel", "lower", "(II)I"⟩, 28) := ⟨⟨by decide +kernel, by decide +kernel⟩, List.mem_of_getElem? (i := 729) (by decide +kernel), List.mem_of_getElem? (i := 1055) (by decide +kernel), List.mem_of_getElem? (i := 1056) (by decide +kernel)⟩
theorem lw_p61 : lw_okq (⟨"OpticmeshModel", "moves", "(III)V"⟩, 28) := ⟨⟨by decide +kernel, by decide +kernel⟩, List.mem_of_getElem? (i := 729) (by decide +kernel), List.mem_of_getElem? (i := 1059) (by decide +kernel), List.mem_of_getElem? (i := 1060) (by decide +kernel)⟩
theorem lw_p62 : lw_okq (⟨"OpticmeshModel", "laysCrossed", "()I"⟩, 28) := ⟨⟨by decide +kernel, by decide +kernel⟩, List.mem_of_getElem? (i := 729) (by decide +kernel), List.mem_of_getElem? (i := 1067) (by decide +kernel), List.mem_of_getElem? (i := 1068) (by decide +kernel)⟩
theorem lw_p63 : lw_okq (⟨"OpticmeshModel", "fibresOf", "(I)I"⟩, 28) := ⟨⟨by decide +kernel, by decide +kernel⟩, List.mem_of_getElem? (i := 729) (by decide +kernel), List.mem_of_getElem? (i := 1071) (by decide +kernel), List.mem_of_getElem? (i := 1072) (by decide +kernel)⟩
def lw_privs_4 : List (MethodName × Nat) := [(⟨"OpticmeshModel", "findsPair", "(II)Z"⟩, 28), (⟨"OpticmeshModel", "laysOne", "([I[I)Z"⟩, 28), (⟨"OpticmeshModel", "isBetterPair", "()Z"⟩, 28), (⟨"OpticmeshModel", "makes", "(III)I"⟩, 28), (⟨"OpticmeshModel", "gets", "(II[I)V"⟩, 28), (⟨"OpticmeshModel", "uses", "(III)V"⟩, 28), (⟨"OpticmeshModel", "errorOfRequest", "(I)I"⟩, 28), (⟨"OpticmeshModel", "ends", "(I)V"⟩, 28), (⟨"OpticmeshModel", "isLight", "(I)Z"⟩, 28), (⟨"OpticmeshModel", "isWay", "(II)Z"⟩, 28), (⟨"OpticmeshModel", "areMergeable", "(II)Z"⟩, 28), (⟨"OpticmeshModel", "takesOver", "(II)V"⟩, 28), (⟨"OpticmeshModel", "lower", "(II)I"⟩, 28), (⟨"OpticmeshModel", "moves", "(III)V"⟩, 28), (⟨"OpticmeshModel", "laysCrossed", "()I"⟩, 28), (⟨"OpticmeshModel", "fibresOf", "(I)I"⟩, 28)]
theorem lw_r4 : ∀ q ∈ lw_privs_4, lw_okq q := List.forall_mem_cons.mpr ⟨lw_p48, List.forall_mem_cons.mpr ⟨lw_p49, List.forall_mem_cons.mpr ⟨lw_p50, List.forall_mem_cons.mpr ⟨lw_p51, List.forall_mem_cons.mpr ⟨lw_p52, List.forall_mem_cons.mpr ⟨lw_p53, List.forall_mem_cons.mpr ⟨lw_p54, List.forall_mem_cons.mpr ⟨lw_p55, List.forall_mem_cons.mpr ⟨lw_p56, List.forall_mem_cons.mpr ⟨lw_p57, List.forall_mem_cons.mpr ⟨lw_p58, List.forall_mem_cons.mpr ⟨lw_p59, List.forall_mem_cons.mpr ⟨lw_p60, List.forall_mem_cons.mpr ⟨lw_p61, List.forall_mem_cons.mpr ⟨lw_p62, List.forall_mem_cons.mpr ⟨lw_p63, fun _ h => absurd h List.not_mem_nil⟩⟩⟩⟩⟩⟩⟩⟩⟩⟩⟩⟩⟩⟩⟩⟩
theorem lw_p64 : lw_okq (⟨"OpticmeshModel", "isApart", "(II)Z"⟩, 28) := ⟨⟨by decide +kernel, by decide +kernel⟩, List.mem_of_getElem? (i := 729) (by decide +kernel), List.mem_of_getElem? (i := 1075) (by decide +kernel), List.mem_of_getElem? (i := 1076) (by decide +kernel)⟩
def lw_privs_5 : List (MethodName × Nat) := [(⟨"OpticmeshModel", "isApart", "(II)Z"⟩, 28)]
theorem lw_r5 : ∀ q ∈ lw_privs_5, lw_okq q := List.forall_mem_cons.mpr ⟨lw_p64, fun _ h => absurd h List.not_mem_nil⟩
def lw_privs : List (MethodName × Nat) := lw_privs_1 ++ (lw_privs_2 ++ (lw_privs_3 ++ (lw_privs_4 ++ (lw_privs_5))))
def lw_tbl : List Cond := k2_sels lw_privs ++ tables_1
theorem lw_privs_ok : ∀ q ∈ lw_privs, lw_okq q := by
  show ∀ q ∈ lw_privs_1 ++ (lw_privs_2 ++ (lw_privs_3 ++ (lw_privs_4 ++ (lw_privs_5)))), lw_okq q
  exact List.forall_mem_append.mpr ⟨lw_r1, List.forall_mem_append.mpr ⟨lw_r2, List.forall_mem_append.mpr ⟨lw_r3, List.forall_mem_append.mpr ⟨lw_r4, lw_r5⟩⟩⟩⟩
/-- the streams that the claim lets the run draw from -/
abbrev lw_cs : List Choice := [Jvm.Choice.named "NaN.bits"]
theorem lw_bits : nanBits ∈ lw_cs := by first | decide | exact List.mem_cons_self | simp [lw_cs, nanBits]
end
section
/-! ===== BEGIN words of one list among another's, by their places ===== -/
theorem goodIn_r {big : List Cond} (ws : List Cond) (ps : List Nat) (hp : ws = ps.filterMap (fun i => big[i]?)) (h : ws.all goodWord = true) : GoodIn big ws := by
  intro w hw
  have h1 := List.all_eq_true.mp h w hw
  rw [hp] at hw
  obtain ⟨i, -, hi⟩ := List.mem_filterMap.mp hw
  have hm : w ∈ big := by first | exact List.mem_of_getElem? hi | exact List.getElem?_mem hi
  exact ⟨hm, good_of_word h1⟩
theorem goodIn_app {big a b : List Cond} (ha : GoodIn big a) (hb : GoodIn big b) : GoodIn big (a ++ b) := fun w h => (List.mem_append.mp h).elim (ha w) (hb w)
theorem goodIn_ca {big a b : List Cond} {c : Cond} (ha : GoodIn big (c :: a)) (hb : GoodIn big b) : GoodIn big (c :: (a ++ b)) := fun w h => (List.mem_cons.mp h).elim (fun e => ha w (List.mem_cons.mpr (Or.inl e))) (fun h => (List.mem_append.mp h).elim (fun h => ha w (List.mem_cons.mpr (Or.inr h))) (hb w))
theorem goodIn_sub {big ws : List Cond} (hm : ∀ w ∈ ws, w ∈ big) (h : ws.all goodWord = true) : GoodIn big ws := fun w hw => ⟨hm w hw, good_of_word (List.all_eq_true.mp h w hw)⟩
/-! ===== END ===== -/

/-! ===== BEGIN exceptions that leave a method, and their catching by the caller (launches without stack traces) ===== -/
section VXA
/-! The laws vx_back, vx_callV, vx_callS, vx_callSW, vx_throw0, vx_throwS follow proofs of the library, with one case more: JvmDerived/Free/Laws.lean (Back.of_free), Shelf42/LK1.lean (callV, callS), Shelf/KitTraced.lean (throwNew0V, throwNewS). -/
/-- where a method has thrown q: the class by its name, the cell, what was written, the world -/
def vx_T (XC : String → State → State → Prop) (st : State) (q : Addr) (t : State) (mc ms : Nat) (free : Addr → Prop) : Prop :=
  ∃ (E : String) (ce : Cell) (L : List Loc), XC E st t ∧ t.heap[q]? = some ce ∧ ce.vm = .none ∧ st.vm.findClass E = some ce.cls ∧ st.WarmedH t.vm ∧ st.sameButNew ({ t with vm := st.vm } : State) L mc ms ∧ ∀ z ∈ L, free z.base
def vx_Q (Qc : Array Value → State → Outcome → State → Prop) (XC : String → State → State → Prop) (mc ms : Nat) (free : Addr → Prop) : Array Value → State → Outcome → State → Prop := fun a st o t =>
  (Qc a st o t ∧ ∃ L, FrameEnd st o t L mc ms ∧ ∀ q ∈ L, free q.base) ∨ ∃ q, o = .threw q ∧ vx_T XC st q t mc ms free
/-- a callee that returns or throws -/
def vx_Met (l : Launch) (y : MethodName) (ws : List Cond) (rm : Room) (Pc : Array Value → State → Prop) (Qc : Array Value → State → Outcome → State → Prop) (XC : String → State → State → Prop) (mc ms : Nat) (free : Addr → Prop) : Prop :=
  MetFree l y (headSpec ws rm) Pc (fun _ _ _ _ _ => True) (vx_Q Qc XC mc ms free)
def vx_Post (XC : String → State → State → Prop) (mc ms : Nat) (free : Addr → Prop) : Pt → Array Value → Addr → Pt → Prop := fun A a q B =>
  ∃ (g : JFrame) (mk : MethodId) (t : State) (L : List Loc) (E : String) (ce : Cell), B.U.heap = t.heap ∧ B.U.vm = t.vm ∧ XC E (A.U.calling g mk a) t ∧ t.heap[q]? = some ce ∧ ce.vm = .none ∧ A.U.vm.findClass E = some ce.cls ∧ B.locs = A.locs ++ L ∧ (∀ z ∈ L, free z.base) ∧ B.cells = A.cells + mc ∧ B.slots = A.slots + ms
def vx_Back (l : Launch) (R : Room) (p : Program) (e : Env) (below : List Frame) (s : State) (sargs : Array Value) (y : MethodName) (len W9 : Nat)
    (Pre : Pt → Array Value → Prop) (Post : Pt → Array Value → Option Value → Pt → Prop) (PostX : Pt → Array Value → Addr → Pt → Prop) : Prop :=
  ∀ (m : MethodId) (meth : Method) (c : Code) (A : Pt) (g : JFrame) (ig : Instr) (mk : MethodId) (a : Array Value),
    Stand p l e R s m sargs below meth c A.U A.locs A.cells A.slots → g.method = m → g.locals.size = c.maxLocals → decode c.code g.pc = .ok (ig, len) →
    2 * g.monitorRoom + (g.stack.map fun v => v.category).sum ≤ W9 → A.U.methodNamed? y = some mk → Pre A a →
    (∃ (v : Option Value) (B : Pt), Stand p l e R s m sargs below meth c B.U B.locs B.cells B.slots ∧ Post A a v B ∧
      Steps p.tables e below (doInvoke e (A.U.setTop g) [] mk a).1 (B.U.setTop { g with pc := g.pc + len, stack := v.toList ++ g.stack })) ∨
    (∃ (q : Addr) (B : Pt), Stand p l e R s m sargs below meth c B.U B.locs B.cells B.slots ∧ PostX A a q B ∧
      Steps p.tables e below (doInvoke e (A.U.setTop g) [] mk a).1 ((B.U.setTop g).pushFrame (.throwing q)))
section Payer
variable {l : Launch} {R : Room} {p : Program} {e : Env} {below : List Frame} {s : State} {sargs : Array Value} {y : MethodName} {len W9 : Nat}
theorem vx_back {ws : List Cond} {rm : Room} {Pc : Array Value → State → Prop} {Qc : Array Value → State → Outcome → State → Prop} {XC : String → State → State → Prop} {mc ms : Nat} {free : Addr → Prop} {bytes : ByteArray} {maxL : Nat} {ret : Option FieldType}
    (hM : vx_Met l y ws rm Pc Qc XC mc ms free) (hblind : FrameBlind Pc) (hrc : rm.cells = mc) (hrs : rm.slots = ms)
    (hframes : rm.frames + 1 ≤ R.frames) (hlocals : W9 + (maxL + 11) + rm.locals ≤ R.locals)
    (hws : ∀ w ∈ ws, ∀ a' U, s.WarmedH U.vm → w.before a' U = true) (hcode : Cond.code y bytes maxL ret ∈ ws) (hinit : ∀ a' U, s.WarmedH U.vm → (Cond.initialized y.cls).before a' U = true) :
    vx_Back l R p e below s sargs y len W9 (PreOf R mc ms Pc) (PostOf Qc mc ms free) (vx_Post XC mc ms free) := by
  intro m meth c A g ig mk a X hg hsize hdg hW hn hp
  have h1 : (headSpec ws rm).pre.before a A.U = true := atoms_intro fun w hw => hws w hw _ _ X.warmed
  have h2 : (Cond.code y bytes maxL ret).before a A.U = true := hws _ hcode _ _ X.warmed
  have h3 : (Cond.initialized y.cls).before a A.U = true := hinit _ _ X.warmed
  have h4 : A.cells + (headSpec ws rm).room.cells ≤ R.cells := by rw [show (headSpec ws rm).room.cells = mc from hrc]; exact hp.1
  have h5 : A.slots + (headSpec ws rm).room.slots ≤ R.slots := by rw [show (headSpec ws rm).room.slots = ms from hrs]; exact hp.2.1
  have hPc : Pc a (A.U.calling g mk a) := hblind _ _ _ _ hp.2.2
  obtain ⟨U, Ls, c0, s0⟩ := A
  dsimp only [Pt.U, Pt.locs, Pt.cells, Pt.slots] at h1 h2 h3 h4 h5 X hn hPc ⊢
  obtain ⟨methY, cY, hmY, hcY, -, hlY, -, -, -, -⟩ := Cond.code_spec hn h2
  obtain ⟨kY, hkY, -⟩ := className_of_methodNamed hn
  have hinitY : kY.init = .initialized := Cond.initialized_spec (findClass_of_methodNamed hn) hkY h3
  have h : At U g.method c below := by rw [hg]; exact X.here
  have hlocals9 : W9 + (maxL + 11) + (headSpec ws rm).room.locals ≤ R.locals := hlocals
  have happ : (headSpec ws rm).appliesLoose y e.platform (U.calling g mk a) = true :=
    Spec.appliesLoose_calling (g := g) h hdg hn hkY hinitY
      (X.room_calling (g := g) (R' := (headSpec ws rm).room) hsize hmY hcY hframes (by rw [hlY]; omega) h4 h5) h1
  obtain ⟨mid, hmid⟩ := h.above
  have hfr : (U.setTop g).frames = (.java g :: mid) ++ below := by rw [State.frames_setTop' g h.top, hmid]; rfl
  obtain ⟨o, s₂, hsteps, -, hend, hq⟩ := Steps.callFree hM p X.admits X.cas X.clock (acts := []) hfr happ hPc trivial
  have hq' : vx_Q Qc XC mc ms free a (U.calling g mk a) o s₂ := hq
  rw [State.frames_setTop' g h.top] at hend
  obtain ⟨g₀, hg0⟩ := Option.isSome_iff_exists.mp h.top
  obtain ⟨r, hr⟩ := State.topJava?_eq_some.mp hg0
  have hr' : (({ U with heap := s₂.heap, slotsUsed := s₂.slotsUsed } : State).setVm s₂.vm).frames = .java g₀ :: r := hr
  rcases hq' with ⟨hqc, L, hfe, hL⟩ | ⟨q, rfl, E, ce, L, hx, hce, hcv, hcl, hW₂, hsm, hL⟩
  · obtain ⟨⟨v, rfl⟩, hW₂, e2, q2, q3, q4, q5, q6⟩ := id hfe
    have e3 : s₂ = ({ (U.calling g mk a).setFrames s₂.frames with heap := s₂.heap, slotsUsed := s₂.slotsUsed } : State).setVm s₂.vm := by
      have : s₂ = ({ s₂ with vm := (U.calling g mk a).vm } : State).setVm s₂.vm := rfl
      rw [e2] at this
      exact this
    obtain ⟨c₂, i₂, len₂, hc₂, hd₂, hf₂⟩ := hend
    have hW' : U.WarmedH s₂.vm := hW₂
    have hcc : c₂ = c := by
      have h1 : s₂.code? g.method = U.code? g.method := by
        rw [State.code?_eq, State.code?_eq, hW'.alike.method?]
      exact Option.some.inj (hc₂.symm.trans (h1.trans h.code))
    subst hcc
    have hlen : len₂ = len := by rw [hdg] at hd₂; cases hd₂; rfl
    subst hlen
    have hs₂ : s₂ = (({ U with heap := s₂.heap, slotsUsed := s₂.slotsUsed } : State).setVm s₂.vm).setTop { g with pc := g.pc + len₂, stack := v.toList ++ g.stack } := by
      refine e3.trans ?_
      rw [hf₂, State.calling_eq h.top, State.setFrames_setFrames, State.setTop_of_frames _ hr', hr]
      rfl
    have hsame : U.sameButNew ({ U with heap := s₂.heap, slotsUsed := s₂.slotsUsed } : State) L mc ms := by
      refine ⟨?_, q2, q3, q4, q5, q6⟩
      obtain ⟨t, ht, -⟩ := State.frames_cons hr
      show ({ U with heap := s₂.heap, slotsUsed := s₂.slotsUsed } : State) = { U.setFrames U.frames with heap := s₂.heap, slotsUsed := s₂.slotsUsed }
      rw [State.setFrames_self ht]
    subst hg
    refine Or.inl ⟨v, ⟨(({ U with heap := s₂.heap, slotsUsed := s₂.slotsUsed } : State).setVm s₂.vm), Ls ++ L, c0 + mc, s0 + ms⟩,
      ⟨X.admits, X.cas, X.clock, X.frames, X.room, X.hears, X.method, X.code, (X.here.setHeapUsed s₂.heap s₂.slotsUsed).setVm hW'.alike, X.tail, State.WarmedH.trans X.warmed hW', X.limits, X.bytes, X.same.trans (hsame.setVm s.vm)⟩,
      ⟨g, mk, s₂, L, rfl, rfl, hqc, rfl, hL, rfl, rfl⟩, ?_⟩
    show Steps p.tables e below _ ((({ U with heap := s₂.heap, slotsUsed := s₂.slotsUsed } : State).setVm s₂.vm).setTop { g with pc := g.pc + len₂, stack := v.toList ++ g.stack })
    rw [← hs₂]
    exact hsteps
  · obtain ⟨e2, q2, q3, q4, q5, q6⟩ := id hsm
    have e3 : s₂ = ({ (U.calling g mk a).setFrames s₂.frames with heap := s₂.heap, slotsUsed := s₂.slotsUsed } : State).setVm s₂.vm := by
      have : s₂ = ({ s₂ with vm := (U.calling g mk a).vm } : State).setVm s₂.vm := rfl
      rw [e2] at this
      exact this
    have hf₂ : s₂.frames = .throwing q :: .java g :: U.frames.tail := hend
    have hW' : U.WarmedH s₂.vm := hW₂
    have hs₂ : s₂ = ((({ U with heap := s₂.heap, slotsUsed := s₂.slotsUsed } : State).setVm s₂.vm).setTop g).pushFrame (.throwing q) := by
      refine e3.trans ?_
      rw [hf₂, State.calling_eq h.top, State.setFrames_setFrames, State.pushFrame, State.frames_setTop _ hr', State.setTop_of_frames _ hr', State.setFrames_setFrames, hr]
      rfl
    have hsame : U.sameButNew ({ U with heap := s₂.heap, slotsUsed := s₂.slotsUsed } : State) L mc ms := by
      refine ⟨?_, q2, q3, q4, q5, q6⟩
      obtain ⟨t, ht, -⟩ := State.frames_cons hr
      show ({ U with heap := s₂.heap, slotsUsed := s₂.slotsUsed } : State) = { U.setFrames U.frames with heap := s₂.heap, slotsUsed := s₂.slotsUsed }
      rw [State.setFrames_self ht]
    subst hg
    refine Or.inr ⟨q, ⟨(({ U with heap := s₂.heap, slotsUsed := s₂.slotsUsed } : State).setVm s₂.vm), Ls ++ L, c0 + mc, s0 + ms⟩,
      ⟨X.admits, X.cas, X.clock, X.frames, X.room, X.hears, X.method, X.code, (X.here.setHeapUsed s₂.heap s₂.slotsUsed).setVm hW'.alike, X.tail, State.WarmedH.trans X.warmed hW', X.limits, X.bytes, X.same.trans (hsame.setVm s.vm)⟩,
      ⟨g, mk, s₂, L, E, ce, rfl, rfl, hx, hce, hcv, hcl, rfl, hL, rfl, rfl⟩, ?_⟩
    show Steps p.tables e below _ (((({ U with heap := s₂.heap, slotsUsed := s₂.slotsUsed } : State).setVm s₂.vm).setTop g).pushFrame (.throwing q))
    rw [← hs₂]
    exact hsteps
end Payer
section Calls
variable {p : Program} {l : Launch} {e : Env} {R : Room} {s : State} {m : MethodId} {args : Array Value} {below : List Frame} {meth : Method} {c : Code} {T : State} {locs : List Loc} {cells slots : Nat}
theorem vx_callV (X : Stand p l e R s m args below meth c T locs cells slots) (hexec : p.tables.exec = Jvm.exec) {own C : String} {index : Nat} {y : MethodName} {bytes : ByteArray} {maxL : Nat} {ret : Option FieldType}
    (hown : s.vm.findClass own = some m.cls) (hlink : (Cond.methodLink own index y).before args s = true) (hinst : (Cond.instanceMethod y).before args s = true) (hsel : (Cond.selects C y y).before args s = true)
    (hcode : (Cond.code y bytes maxL ret).before args s = true) (hy : y.cls ≠ "java/lang/invoke/MethodHandle" ∧ y.cls ≠ "java/lang/invoke/VarHandle")
    {W9 : Nat} {Pre : Pt → Array Value → Prop} {Post : Pt → Array Value → Option Value → Pt → Prop} {PostX : Pt → Array Value → Addr → Pt → Prop} (hK : vx_Back l R p e below s args y 3 W9 Pre Post PostX)
    {b : Addr} {cellB : Cell} (hcell : T.heap[b]? = some cellB) (hobj : cellB.vm.isStatics = false) (hcls : s.vm.findClass C = some cellB.cls)
    {g : JFrame} (hg : g.method = m) (hsize : g.locals.size = c.maxLocals) {argsL rest : List Value} (hlen : ∀ sig, parseMethodDescriptor y.desc = some sig → argsL.length = sig.parameters.length)
    (hstack : g.stack = argsL.reverse ++ .ref b :: rest) (hW : 2 * g.monitorRoom + (rest.map fun v => v.category).sum ≤ W9) (hdg : decode c.code g.pc = .ok (.invokevirtual index, 3))
    (hpre : ∀ vm₁, s.WarmedH vm₁ → Pre ⟨T.setVm vm₁, locs, cells, slots⟩ (Value.ref b :: argsL).toArray) :
    (∃ (v : Option Value) (vm₁ : Vm) (B : Pt), s.WarmedH vm₁ ∧ Stand p l e R s m args below meth c B.U B.locs B.cells B.slots ∧ Post ⟨T.setVm vm₁, locs, cells, slots⟩ (Value.ref b :: argsL).toArray v B ∧
      ∀ target, Steps p.tables e below (B.U.setTop { g with pc := g.pc + 3, stack := v.toList ++ rest }) target → Steps p.tables e below (T.setTop g) target) ∨
    (∃ (q : Addr) (vm₁ : Vm) (B : Pt), s.WarmedH vm₁ ∧ Stand p l e R s m args below meth c B.U B.locs B.cells B.slots ∧ PostX ⟨T.setVm vm₁, locs, cells, slots⟩ (Value.ref b :: argsL).toArray q B ∧
      Steps p.tables e below (T.setTop g) ((B.U.setTop { g with stack := rest }).pushFrame (.throwing q))) := by
  obtain ⟨mk, methM, hnamed, hmethM, hstM, habM⟩ := Cond.instanceMethod_spec hinst
  obtain ⟨methM', cM, hmethM', -, -, -, -, -, -, hsigM⟩ := Cond.code_spec hnamed hcode
  cases hmethM.symm.trans hmethM'
  obtain ⟨c2, r2, m2, q1, q2, q3, q4, kP, hkP, hkPi⟩ := Cond.selects_spec hsel
  cases hcls.symm.trans q1
  cases (State.methodFound?_of_named hnamed hy).symm.trans q2
  cases hnamed.symm.trans q3
  have hselP : selectMethod e.platform s.vm cellB.cls mk = .method mk := by rw [Launch.admits_selectMethod X.admits]; exact q4
  obtain ⟨vm₁, X₁, hstep₁⟩ := X.invokevirtual hexec hown hlink hnamed hmethM hstM hkP hkPi hy (a := b) (cell := cellB) hcell
    (fun z h => by rw [h] at hobj; cases hobj) hselP hmethM habM hkP hkPi (g := g) hg (argsL := argsL) (rest := rest) (hlen _ hsigM) hstack hdg
  rcases hK m meth c ⟨T.setVm vm₁, locs, cells, slots⟩ { g with stack := rest } (.invokevirtual index) mk (Value.ref b :: argsL).toArray X₁ hg hsize hdg hW (X₁.named hnamed) (hpre vm₁ X₁.warmed) with ⟨v, B, X', hpost, hsteps⟩ | ⟨q, B, X', hpost, hsteps⟩
  · exact Or.inl ⟨v, vm₁, B, X₁.warmed, X', hpost, fun target h => hstep₁ _ fun acts => by rw [doInvoke_state]; exact hsteps.trans h⟩
  · exact Or.inr ⟨q, vm₁, B, X₁.warmed, X', hpost, hstep₁ _ fun acts => by rw [doInvoke_state]; exact hsteps⟩
theorem vx_callS (X : Stand p l e R s m args below meth c T locs cells slots) (hexec : p.tables.exec = Jvm.exec) {own : String} {index : Nat} {y : MethodName} {bytes : ByteArray} {maxL : Nat} {ret : Option FieldType}
    (hown : s.vm.findClass own = some m.cls) (hlink : (Cond.methodLink own index y).before args s = true) (hstat : (Cond.static y).before args s = true) (hinit : (Cond.initialized y.cls).before args s = true)
    (hcode : (Cond.code y bytes maxL ret).before args s = true) (hy : y.cls ≠ "java/lang/invoke/MethodHandle" ∧ y.cls ≠ "java/lang/invoke/VarHandle")
    {W9 : Nat} {Pre : Pt → Array Value → Prop} {Post : Pt → Array Value → Option Value → Pt → Prop} {PostX : Pt → Array Value → Addr → Pt → Prop} (hK : vx_Back l R p e below s args y 3 W9 Pre Post PostX)
    {g : JFrame} (hg : g.method = m) (hsize : g.locals.size = c.maxLocals) {argsL rest : List Value} (hlen : ∀ sig, parseMethodDescriptor y.desc = some sig → argsL.length = sig.parameters.length)
    (hstack : g.stack = argsL.reverse ++ rest) (hW : 2 * g.monitorRoom + (rest.map fun v => v.category).sum ≤ W9) (hdg : decode c.code g.pc = .ok (.invokestatic index, 3))
    (hpre : ∀ vm₁, s.WarmedH vm₁ → Pre ⟨T.setVm vm₁, locs, cells, slots⟩ argsL.toArray) :
    (∃ (v : Option Value) (vm₁ : Vm) (B : Pt), s.WarmedH vm₁ ∧ Stand p l e R s m args below meth c B.U B.locs B.cells B.slots ∧ Post ⟨T.setVm vm₁, locs, cells, slots⟩ argsL.toArray v B ∧
      ∀ target, Steps p.tables e below (B.U.setTop { g with pc := g.pc + 3, stack := v.toList ++ rest }) target → Steps p.tables e below (T.setTop g) target) ∨
    (∃ (q : Addr) (vm₁ : Vm) (B : Pt), s.WarmedH vm₁ ∧ Stand p l e R s m args below meth c B.U B.locs B.cells B.slots ∧ PostX ⟨T.setVm vm₁, locs, cells, slots⟩ argsL.toArray q B ∧
      Steps p.tables e below (T.setTop g) ((B.U.setTop { g with stack := rest }).pushFrame (.throwing q))) := by
  obtain ⟨mk, hnamed⟩ := Cond.code_named hcode
  obtain ⟨methM, cM, hmethM, -, -, -, -, -, -, hsigM⟩ := Cond.code_spec hnamed hcode
  have hstatic : methM.isStatic = true := Cond.static_spec hnamed hmethM hstat
  obtain ⟨kP, hkP, -⟩ := className_of_methodNamed hnamed
  have hinitP : kP.init = .initialized := Cond.initialized_spec (findClass_of_methodNamed hnamed) hkP hinit
  obtain ⟨vm₁, X₁, hstep₁⟩ := X.invokestatic hexec hown hlink hnamed hmethM hstatic hkP hinitP hy (g := g) hg (argsL := argsL) (rest := rest) (hlen _ hsigM) hstack hdg
  rcases hK m meth c ⟨T.setVm vm₁, locs, cells, slots⟩ { g with stack := rest } (.invokestatic index) mk argsL.toArray X₁ hg hsize hdg hW (X₁.named hnamed) (hpre vm₁ X₁.warmed) with ⟨v, B, X', hpost, hsteps⟩ | ⟨q, B, X', hpost, hsteps⟩
  · exact Or.inl ⟨v, vm₁, B, X₁.warmed, X', hpost, fun target h => hstep₁ _ fun acts => by rw [doInvoke_state]; exact hsteps.trans h⟩
  · exact Or.inr ⟨q, vm₁, B, X₁.warmed, X', hpost, hstep₁ _ fun acts => by rw [doInvoke_state]; exact hsteps⟩
end Calls
theorem vx_cls {s : State} {T : State} {vm₁ : Vm} {E : String} {k : ClassId} (hW : s.WarmedH vm₁) (h : (T.setVm vm₁).vm.findClass E = some k) : s.vm.findClass E = some k := by
  have h1 : vm₁.findClass E = some k := h
  rw [hW.alike.findClass] at h1
  exact h1
/-- the method's frame g, with q thrown over it -/
def vx_W (p : Program) (l : Launch) (e : Env) (R : Room) (s : State) (m : MethodId) (args : Array Value) (below : List Frame) (meth : Method) (c : Code) (H : Heap) (locs : List Loc) (cells slots : Nat) (Q : State → Prop) (g : JFrame) (q : Addr) : Prop :=
  ∀ T : State, T.heap = H → Stand p l e R s m args below meth c T locs cells slots → ∃ t, Steps p.tables e below ((T.setTop g).pushFrame (.throwing q)) t ∧ Q t
def vx_Run (p : Program) (l : Launch) (e : Env) (R : Room) (s : State) (m : MethodId) (args : Array Value) (below : List Frame) (meth : Method) (c : Code) (H : Heap) (locs : List Loc) (cells slots mc ms : Nat) (g : JFrame) (rest : List Value) (Qa : State → Outcome → State → Prop) (XC : String → State → State → Prop) (free : Addr → Prop) : Prop :=
  ∀ T : State, T.heap = H → Stand p l e R s m args below meth c T locs cells slots →
    (∃ (v : Option Value) (st₀ t T' : State) (L : List Loc), st₀.heap = H ∧ Stand p l e R s m args below meth c T' (locs ++ L) (cells + mc) (slots + ms) ∧ (∀ q ∈ L, free q.base) ∧ T'.heap = t.heap ∧ T'.vm = t.vm ∧ Qa st₀ (.returned v) t ∧
      Goes p e below T g T' { g with pc := g.pc + 3, stack := v.toList ++ rest }) ∨
    (∃ (q : Addr) (st₀ t T' : State) (L : List Loc) (E : String) (ce : Cell), st₀.heap = H ∧ Stand p l e R s m args below meth c T' (locs ++ L) (cells + mc) (slots + ms) ∧ (∀ z ∈ L, free z.base) ∧ T'.heap = t.heap ∧ T'.vm = t.vm ∧ XC E st₀ t ∧ t.heap[q]? = some ce ∧ ce.vm = .none ∧ s.vm.findClass E = some ce.cls ∧
      Steps p.tables e below (T.setTop g) ((T'.setTop { g with stack := rest }).pushFrame (.throwing q)))
def vx_X {S : Type} (px : S → Prop) (B : String → S → State → Prop) (A : Nat → Prop) : String → State → State → Prop := fun E st t => ∃ u : S, px u ∧ B E u t ∧ va_F A st t
section Runs
variable {p : Program} {l : Launch} {e : Env} {R : Room} {s : State} {m : MethodId} {args : Array Value} {below : List Frame} {meth : Method} {c : Code} {H : Heap} {locs : List Loc} {cells slots : Nat}
variable {y : MethodName} {bytes cc : ByteArray} {maxL nL mc ms n index : Nat} {ret : Option FieldType} {ws : List Cond} {rm : Room} {Pc : Array Value → State → Prop} {Qc : Array Value → State → Outcome → State → Prop} {XC : String → State → State → Prop} {free : Addr → Prop} {Ts : List Cond} {own C : String} {b : Addr} {As rest : List Value} {g : JFrame}
theorem vx_callBack (cb : CallB R s args own index y bytes maxL ret ws rm mc ms n) (hM : vx_Met l y ws rm Pc Qc XC mc ms free) (hbl : FrameBlind Pc) : vx_Back l R p e below s args y 3 8 (PreOf R mc ms Pc) (PostOf Qc mc ms free) (vx_Post XC mc ms free) := by
  obtain ⟨hrc, hrs, hfr, hlo, hws, hcw, -, hini, -⟩ := cb
  exact vx_back (bytes := bytes) (maxL := maxL) (ret := ret) hM hbl hrc hrs hfr hlo hws hcw (fun a' U hW => word_at hW (Or.inl (by first | rfl | simp [Cond.onTables, Cond.keeps, Cond.steady])) hini)
theorem vx_runV (S : CallFix p m c cc nL s args Ts own) (hM : vx_Met l y ws rm Pc Qc XC mc ms free) (cw : CallW R s args own C index y bytes maxL ret ws rm mc ms n) (hp : PreV s H C b Pc As)
    (hg : g.method = m) (hn : As.length = n) (hsize : g.locals.size = nL) (hstack : g.stack = As.reverse ++ .ref b :: rest) (hW : 2 * g.monitorRoom + (rest.map fun v => v.category).sum ≤ 8) (hdg : decode cc g.pc = .ok (.invokevirtual index, 3)) (hf : cells + mc ≤ R.cells ∧ slots + ms ≤ R.slots) :
    vx_Run p l e R s m args below meth c H locs cells slots mc ms g rest (Qc (Value.ref b :: As).toArray) XC free := by
  have hK : vx_Back l R p e below s args y 3 8 (PreOf R mc ms Pc) (PostOf Qc mc ms free) (vx_Post XC mc ms free) := vx_callBack cw.1 hM hp.1
  obtain ⟨⟨-, -, -, -, -, -, hcode, -, hy, hlen, hl⟩, hin, hse⟩ := cw
  obtain ⟨hx, hb, hml, ho, -⟩ := S
  obtain ⟨-, ⟨cellB, hcB, hoB, hclB⟩, hPc⟩ := hp
  intro T hT X
  rcases vx_callV X hx (C := C) (bytes := bytes) (maxL := maxL) (ret := ret) ho hl hin hse hcode hy hK (by rw [hT]; exact hcB) hoB hclB hg (hsize.trans hml.symm) (argsL := As) (rest := rest) (fun sig h => hn.trans (hlen sig h)) hstack hW (by rw [hb]; exact hdg)
    (fun vm₁ hW₁ => ⟨hf.1, hf.2, hPc (T.setVm vm₁) hT hW₁⟩) with ⟨v, vm₁, ⟨U', l2, c2, s2⟩, hW₁, X', ⟨g', mk, t, L, e1, e2, hq, h1, hL, h2, h3⟩, st⟩ | ⟨q, vm₁, ⟨U', l2, c2, s2⟩, hW₁, X', ⟨g', mk, t, L, E, ce, e1, e2, hq, hce, hcv, hcl, h1, hL, h2, h3⟩, st⟩
  · dsimp only [Pt.U, Pt.locs, Pt.cells, Pt.slots] at X' e1 e2 h1 h2 h3 st
    subst h1; subst h2; subst h3
    exact Or.inl ⟨v, (T.setVm vm₁).calling g' mk (Value.ref b :: As).toArray, t, U', L, hT, X', hL, e1, e2, hq, st⟩
  · dsimp only [Pt.U, Pt.locs, Pt.cells, Pt.slots] at X' e1 e2 h1 h2 h3 st hcl
    subst h1; subst h2; subst h3
    exact Or.inr ⟨q, (T.setVm vm₁).calling g' mk (Value.ref b :: As).toArray, t, U', L, E, ce, hT, X', hL, e1, e2, hq, hce, hcv, vx_cls hW₁ hcl, st⟩
theorem vx_runS (S : CallFix p m c cc nL s args Ts own) (hM : vx_Met l y ws rm Pc Qc XC mc ms free) (cw : CallB R s args own index y bytes maxL ret ws rm mc ms n ∧ (Cond.static y).before args s = true) (hp : PreS s H Pc As)
    (hg : g.method = m) (hn : As.length = n) (hsize : g.locals.size = nL) (hstack : g.stack = As.reverse ++ rest) (hW : 2 * g.monitorRoom + (rest.map fun v => v.category).sum ≤ 8) (hdg : decode cc g.pc = .ok (.invokestatic index, 3)) (hf : cells + mc ≤ R.cells ∧ slots + ms ≤ R.slots) :
    vx_Run p l e R s m args below meth c H locs cells slots mc ms g rest (Qc As.toArray) XC free := by
  have hK : vx_Back l R p e below s args y 3 8 (PreOf R mc ms Pc) (PostOf Qc mc ms free) (vx_Post XC mc ms free) := vx_callBack cw.1 hM hp.1
  obtain ⟨⟨-, -, -, -, -, -, hcode, hini, hy, hlen, hl⟩, hstt⟩ := cw
  obtain ⟨hx, hb, hml, ho, -⟩ := S
  intro T hT X
  rcases vx_callS X hx (bytes := bytes) (maxL := maxL) (ret := ret) ho hl hstt hini hcode hy hK hg (hsize.trans hml.symm) (argsL := As) (rest := rest) (fun sig h => hn.trans (hlen sig h)) hstack hW (by rw [hb]; exact hdg)
    (fun vm₁ hW₁ => ⟨hf.1, hf.2, hp.2 (T.setVm vm₁) hT hW₁⟩) with ⟨v, vm₁, ⟨U', l2, c2, s2⟩, hW₁, X', ⟨g', mk, t, L, e1, e2, hq, h1, hL, h2, h3⟩, st⟩ | ⟨q, vm₁, ⟨U', l2, c2, s2⟩, hW₁, X', ⟨g', mk, t, L, E, ce, e1, e2, hq, hce, hcv, hcl, h1, hL, h2, h3⟩, st⟩
  · dsimp only [Pt.U, Pt.locs, Pt.cells, Pt.slots] at X' e1 e2 h1 h2 h3 st
    subst h1; subst h2; subst h3
    exact Or.inl ⟨v, (T.setVm vm₁).calling g' mk As.toArray, t, U', L, hT, X', hL, e1, e2, hq, st⟩
  · dsimp only [Pt.U, Pt.locs, Pt.cells, Pt.slots] at X' e1 e2 h1 h2 h3 st hcl
    subst h1; subst h2; subst h3
    exact Or.inr ⟨q, (T.setVm vm₁).calling g' mk As.toArray, t, U', L, E, ce, hT, X', hL, e1, e2, hq, hce, hcv, vx_cls hW₁ hcl, st⟩
end Runs
section Rows
variable {p : Program} {l : Launch} {e : Env} {R : Room} {s : State} {m : MethodId} {args : Array Value} {below : List Frame} {meth : Method} {c : Code} {H : Heap} {locs : List Loc} {cells slots : Nat} {Q : State → Prop}
variable {mc ms : Nat} {free : Addr → Prop} {A0 A1 : Nat → Prop} {H0 : Heap} {a : Array Value} {pc : Nat} {ls : Array Slot} {st0 rest : List Value}
theorem vx_keep {st₀ t T' : State} {L : List Loc} (h0 : st₀.heap = H) (e1 : T'.heap = t.heap) (hS : va_S A0 H0 H locs) (hA : ∀ q, q < H.size → A1 q → A0 q) (hf : ∀ q, free q → A0 q) (hL : ∀ q ∈ L, free q.base) (hF : va_F A1 st₀ t) :
    H.size ≤ T'.heap.size ∧ (∀ q : Nat, q < H.size → ¬ A1 q → T'.heap[q]? = H[q]?) ∧ va_S A0 H0 T'.heap (locs ++ L) := by
  obtain ⟨hz, hk⟩ := hF
  rw [h0] at hz hk
  exact ⟨by rw [e1]; exact hz, fun q h1 h2 => by rw [e1]; exact hk q h1 h2,
    ⟨Nat.le_trans hS.1 (by rw [e1]; exact hz), fun q h1 h2 => by rw [e1, hk q (Nat.lt_of_lt_of_le h1 hS.1) (fun z => h2 (hA q (Nat.lt_of_lt_of_le h1 hS.1) z))]; exact hS.2.1 q h1 h2, fun q hq => by
      rcases List.mem_append.mp hq with h | h
      · exact hS.2.2 q h
      · exact hf _ (hL q h)⟩⟩
theorem vx_calli {S SX : Type} {post : Int32 → S → Prop} {px : SX → Prop} {B : S → State → Prop} {BX : String → SX → State → Prop} {AX : Nat → Prop} (hr : vx_Run p l e R s m args below meth c H locs cells slots mc ms (F0 m pc ls st0) rest (va_Qi post B A1 a) (vx_X px BX AX) free) (hS : va_S A0 H0 H locs) (hA : ∀ q, q < H.size → A1 q → A0 q) (hf : ∀ q, free q → A0 q) (hAX : ∀ q, q < H.size → AX q → A0 q)
    (kx : ∀ (E : String) (ce : Cell) (q9 : Addr) (u : SX) (t : State) (H1 : Heap) (locs1 : List Loc), t.heap = H1 → s.vm.Alike t.vm → px u → BX E u t → H.size ≤ H1.size → (∀ q : Nat, q < H.size → ¬ AX q → H1[q]? = H[q]?) → va_S A0 H0 H1 locs1 → H1[q9]? = some ce → ce.vm = .none → s.vm.findClass E = some ce.cls → vx_W p l e R s m args below meth c H1 locs1 (cells + mc) (slots + ms) Q (F0 m pc ls rest) q9)
    (kk : ∀ (r : Int32) (u : S) (t : State) (H1 : Heap) (locs1 : List Loc), t.heap = H1 → s.vm.Alike t.vm → post r u → B u t → H.size ≤ H1.size → (∀ q : Nat, q < H.size → ¬ A1 q → H1[q]? = H[q]?) → va_S A0 H0 H1 locs1 → W p l e R s m args below meth c H1 locs1 (cells + mc) (slots + ms) Q (F0 m (pc + 3) ls (.int r :: rest))) : W p l e R s m args below meth c H locs cells slots Q (F0 m pc ls st0) := by
  intro T hT X
  rcases hr T hT X with ⟨v, st₀, t, T', L, h0, X', hL, e1, e2, ⟨⟨r, u, hv, hp, hb⟩, hF⟩, st⟩ | ⟨q, st₀, t, T', L, E, ce, h0, X', hL, e1, e2, ⟨u, hp, hb, hF⟩, hce, hcv, hcl, st⟩
  · cases hv
    obtain ⟨k1, k2, k3⟩ := vx_keep h0 e1 hS hA hf hL hF
    obtain ⟨t2, a1, b1⟩ := kk r u t T'.heap (locs ++ L) e1.symm (by rw [← e2]; exact X'.warmed.alike) hp hb k1 k2 k3 T' rfl X'
    exact ⟨t2, st t2 a1, b1⟩
  · obtain ⟨k1, k2, k3⟩ := vx_keep h0 e1 hS hAX hf hL hF
    obtain ⟨t2, a1, b1⟩ := kx E ce q u t T'.heap (locs ++ L) e1.symm (by rw [← e2]; exact X'.warmed.alike) hp hb k1 k2 k3 (by rw [e1]; exact hce) hcv hcl T' rfl X'
    exact ⟨t2, st.trans a1, b1⟩
theorem vx_calll {S SX : Type} {post : Int64 → S → Prop} {px : SX → Prop} {B : S → State → Prop} {BX : String → SX → State → Prop} {AX : Nat → Prop} (hr : vx_Run p l e R s m args below meth c H locs cells slots mc ms (F0 m pc ls st0) rest (va_Ql post B A1 a) (vx_X px BX AX) free) (hS : va_S A0 H0 H locs) (hA : ∀ q, q < H.size → A1 q → A0 q) (hf : ∀ q, free q → A0 q) (hAX : ∀ q, q < H.size → AX q → A0 q)
    (kx : ∀ (E : String) (ce : Cell) (q9 : Addr) (u : SX) (t : State) (H1 : Heap) (locs1 : List Loc), t.heap = H1 → s.vm.Alike t.vm → px u → BX E u t → H.size ≤ H1.size → (∀ q : Nat, q < H.size → ¬ AX q → H1[q]? = H[q]?) → va_S A0 H0 H1 locs1 → H1[q9]? = some ce → ce.vm = .none → s.vm.findClass E = some ce.cls → vx_W p l e R s m args below meth c H1 locs1 (cells + mc) (slots + ms) Q (F0 m pc ls rest) q9)
    (kk : ∀ (r : Int64) (u : S) (t : State) (H1 : Heap) (locs1 : List Loc), t.heap = H1 → s.vm.Alike t.vm → post r u → B u t → H.size ≤ H1.size → (∀ q : Nat, q < H.size → ¬ A1 q → H1[q]? = H[q]?) → va_S A0 H0 H1 locs1 → W p l e R s m args below meth c H1 locs1 (cells + mc) (slots + ms) Q (F0 m (pc + 3) ls (.long r :: rest))) : W p l e R s m args below meth c H locs cells slots Q (F0 m pc ls st0) := by
  intro T hT X
  rcases hr T hT X with ⟨v, st₀, t, T', L, h0, X', hL, e1, e2, ⟨⟨r, u, hv, hp, hb⟩, hF⟩, st⟩ | ⟨q, st₀, t, T', L, E, ce, h0, X', hL, e1, e2, ⟨u, hp, hb, hF⟩, hce, hcv, hcl, st⟩
  · cases hv
    obtain ⟨k1, k2, k3⟩ := vx_keep h0 e1 hS hA hf hL hF
    obtain ⟨t2, a1, b1⟩ := kk r u t T'.heap (locs ++ L) e1.symm (by rw [← e2]; exact X'.warmed.alike) hp hb k1 k2 k3 T' rfl X'
    exact ⟨t2, st t2 a1, b1⟩
  · obtain ⟨k1, k2, k3⟩ := vx_keep h0 e1 hS hAX hf hL hF
    obtain ⟨t2, a1, b1⟩ := kx E ce q u t T'.heap (locs ++ L) e1.symm (by rw [← e2]; exact X'.warmed.alike) hp hb k1 k2 k3 (by rw [e1]; exact hce) hcv hcl T' rfl X'
    exact ⟨t2, st.trans a1, b1⟩
theorem vx_callf {S SX : Type} {post : UInt32 → S → Prop} {px : SX → Prop} {B : S → State → Prop} {BX : String → SX → State → Prop} {AX : Nat → Prop} (hr : vx_Run p l e R s m args below meth c H locs cells slots mc ms (F0 m pc ls st0) rest (va_Qf post B A1 a) (vx_X px BX AX) free) (hS : va_S A0 H0 H locs) (hA : ∀ q, q < H.size → A1 q → A0 q) (hf : ∀ q, free q → A0 q) (hAX : ∀ q, q < H.size → AX q → A0 q)
    (kx : ∀ (E : String) (ce : Cell) (q9 : Addr) (u : SX) (t : State) (H1 : Heap) (locs1 : List Loc), t.heap = H1 → s.vm.Alike t.vm → px u → BX E u t → H.size ≤ H1.size → (∀ q : Nat, q < H.size → ¬ AX q → H1[q]? = H[q]?) → va_S A0 H0 H1 locs1 → H1[q9]? = some ce → ce.vm = .none → s.vm.findClass E = some ce.cls → vx_W p l e R s m args below meth c H1 locs1 (cells + mc) (slots + ms) Q (F0 m pc ls rest) q9)
    (kk : ∀ (r : UInt32) (u : S) (t : State) (H1 : Heap) (locs1 : List Loc), t.heap = H1 → s.vm.Alike t.vm → post r u → B u t → H.size ≤ H1.size → (∀ q : Nat, q < H.size → ¬ A1 q → H1[q]? = H[q]?) → va_S A0 H0 H1 locs1 → W p l e R s m args below meth c H1 locs1 (cells + mc) (slots + ms) Q (F0 m (pc + 3) ls (.float r :: rest))) : W p l e R s m args below meth c H locs cells slots Q (F0 m pc ls st0) := by
  intro T hT X
  rcases hr T hT X with ⟨v, st₀, t, T', L, h0, X', hL, e1, e2, ⟨⟨r, u, hv, hp, hb⟩, hF⟩, st⟩ | ⟨q, st₀, t, T', L, E, ce, h0, X', hL, e1, e2, ⟨u, hp, hb, hF⟩, hce, hcv, hcl, st⟩
  · cases hv
    obtain ⟨k1, k2, k3⟩ := vx_keep h0 e1 hS hA hf hL hF
    obtain ⟨t2, a1, b1⟩ := kk r u t T'.heap (locs ++ L) e1.symm (by rw [← e2]; exact X'.warmed.alike) hp hb k1 k2 k3 T' rfl X'
    exact ⟨t2, st t2 a1, b1⟩
  · obtain ⟨k1, k2, k3⟩ := vx_keep h0 e1 hS hAX hf hL hF
    obtain ⟨t2, a1, b1⟩ := kx E ce q u t T'.heap (locs ++ L) e1.symm (by rw [← e2]; exact X'.warmed.alike) hp hb k1 k2 k3 (by rw [e1]; exact hce) hcv hcl T' rfl X'
    exact ⟨t2, st.trans a1, b1⟩
theorem vx_calld {S SX : Type} {post : UInt64 → S → Prop} {px : SX → Prop} {B : S → State → Prop} {BX : String → SX → State → Prop} {AX : Nat → Prop} (hr : vx_Run p l e R s m args below meth c H locs cells slots mc ms (F0 m pc ls st0) rest (va_Qd post B A1 a) (vx_X px BX AX) free) (hS : va_S A0 H0 H locs) (hA : ∀ q, q < H.size → A1 q → A0 q) (hf : ∀ q, free q → A0 q) (hAX : ∀ q, q < H.size → AX q → A0 q)
    (kx : ∀ (E : String) (ce : Cell) (q9 : Addr) (u : SX) (t : State) (H1 : Heap) (locs1 : List Loc), t.heap = H1 → s.vm.Alike t.vm → px u → BX E u t → H.size ≤ H1.size → (∀ q : Nat, q < H.size → ¬ AX q → H1[q]? = H[q]?) → va_S A0 H0 H1 locs1 → H1[q9]? = some ce → ce.vm = .none → s.vm.findClass E = some ce.cls → vx_W p l e R s m args below meth c H1 locs1 (cells + mc) (slots + ms) Q (F0 m pc ls rest) q9)
    (kk : ∀ (r : UInt64) (u : S) (t : State) (H1 : Heap) (locs1 : List Loc), t.heap = H1 → s.vm.Alike t.vm → post r u → B u t → H.size ≤ H1.size → (∀ q : Nat, q < H.size → ¬ A1 q → H1[q]? = H[q]?) → va_S A0 H0 H1 locs1 → W p l e R s m args below meth c H1 locs1 (cells + mc) (slots + ms) Q (F0 m (pc + 3) ls (.double r :: rest))) : W p l e R s m args below meth c H locs cells slots Q (F0 m pc ls st0) := by
  intro T hT X
  rcases hr T hT X with ⟨v, st₀, t, T', L, h0, X', hL, e1, e2, ⟨⟨r, u, hv, hp, hb⟩, hF⟩, st⟩ | ⟨q, st₀, t, T', L, E, ce, h0, X', hL, e1, e2, ⟨u, hp, hb, hF⟩, hce, hcv, hcl, st⟩
  · cases hv
    obtain ⟨k1, k2, k3⟩ := vx_keep h0 e1 hS hA hf hL hF
    obtain ⟨t2, a1, b1⟩ := kk r u t T'.heap (locs ++ L) e1.symm (by rw [← e2]; exact X'.warmed.alike) hp hb k1 k2 k3 T' rfl X'
    exact ⟨t2, st t2 a1, b1⟩
  · obtain ⟨k1, k2, k3⟩ := vx_keep h0 e1 hS hAX hf hL hF
    obtain ⟨t2, a1, b1⟩ := kx E ce q u t T'.heap (locs ++ L) e1.symm (by rw [← e2]; exact X'.warmed.alike) hp hb k1 k2 k3 (by rw [e1]; exact hce) hcv hcl T' rfl X'
    exact ⟨t2, st.trans a1, b1⟩
theorem vx_callv {S SX : Type} {post : S → Prop} {px : SX → Prop} {B : S → State → Prop} {BX : String → SX → State → Prop} {AX : Nat → Prop} (hr : vx_Run p l e R s m args below meth c H locs cells slots mc ms (F0 m pc ls st0) rest (va_Qv post B A1 a) (vx_X px BX AX) free) (hS : va_S A0 H0 H locs) (hA : ∀ q, q < H.size → A1 q → A0 q) (hf : ∀ q, free q → A0 q) (hAX : ∀ q, q < H.size → AX q → A0 q)
    (kx : ∀ (E : String) (ce : Cell) (q9 : Addr) (u : SX) (t : State) (H1 : Heap) (locs1 : List Loc), t.heap = H1 → s.vm.Alike t.vm → px u → BX E u t → H.size ≤ H1.size → (∀ q : Nat, q < H.size → ¬ AX q → H1[q]? = H[q]?) → va_S A0 H0 H1 locs1 → H1[q9]? = some ce → ce.vm = .none → s.vm.findClass E = some ce.cls → vx_W p l e R s m args below meth c H1 locs1 (cells + mc) (slots + ms) Q (F0 m pc ls rest) q9)
    (kk : ∀ (u : S) (t : State) (H1 : Heap) (locs1 : List Loc), t.heap = H1 → s.vm.Alike t.vm → post u → B u t → H.size ≤ H1.size → (∀ q : Nat, q < H.size → ¬ A1 q → H1[q]? = H[q]?) → va_S A0 H0 H1 locs1 → W p l e R s m args below meth c H1 locs1 (cells + mc) (slots + ms) Q (F0 m (pc + 3) ls (rest))) : W p l e R s m args below meth c H locs cells slots Q (F0 m pc ls st0) := by
  intro T hT X
  rcases hr T hT X with ⟨v, st₀, t, T', L, h0, X', hL, e1, e2, ⟨⟨u, hv, hp, hb⟩, hF⟩, st⟩ | ⟨q, st₀, t, T', L, E, ce, h0, X', hL, e1, e2, ⟨u, hp, hb, hF⟩, hce, hcv, hcl, st⟩
  · cases hv
    obtain ⟨k1, k2, k3⟩ := vx_keep h0 e1 hS hA hf hL hF
    obtain ⟨t2, a1, b1⟩ := kk u t T'.heap (locs ++ L) e1.symm (by rw [← e2]; exact X'.warmed.alike) hp hb k1 k2 k3 T' rfl X'
    exact ⟨t2, st t2 a1, b1⟩
  · obtain ⟨k1, k2, k3⟩ := vx_keep h0 e1 hS hAX hf hL hF
    obtain ⟨t2, a1, b1⟩ := kx E ce q u t T'.heap (locs ++ L) e1.symm (by rw [← e2]; exact X'.warmed.alike) hp hb k1 k2 k3 (by rw [e1]; exact hce) hcv hcl T' rfl X'
    exact ⟨t2, st.trans a1, b1⟩
/-- caught by the row x of this method's table; the rows ahead don't take it -/
theorem vx_catch {own name : String} {E : String} {ce : Cell} {q : Addr} (hown : s.vm.findClass own = some m.cls) (pre : List ExceptionTableEntry) (x : ExceptionTableEntry) (suf : List ExceptionTableEntry) (hsplit : c.exceptionTable.toList = pre ++ x :: suf)
    (hpass : ∀ z ∈ pre, covers z pc = false ∨ (z.catchType ≠ 0 ∧ ∃ nm : String, (Cond.classLink own z.catchType nm).before args s = true ∧ va_Nc E nm s)) (hx : covers x pc = true) (h0 : x.catchType ≠ 0)
    (hlink : (Cond.classLink own x.catchType name).before args s = true) (hcast : (Cond.castable E name).before args s = true) (hcell : H[q]? = some ce) (hv : ce.vm = .none) (hcl : s.vm.findClass E = some ce.cls)
    (kk : W p l e R s m args below meth c H locs cells slots Q (F0 m x.handlerPc ls [.ref q])) : vx_W p l e R s m args below meth c H locs cells slots Q (F0 m pc ls rest) q := by
  intro T hT X
  have hpl : e.platform.magicAccessors = ({} : Platform).magicAccessors := by rw [X.admits.platform]
  obtain ⟨c3, c4, hc3, hc4, hasg⟩ := Cond.castable_spec hcast
  cases Option.some.inj (hc3.symm.trans hcl)
  obtain ⟨c5, hc5, hcl5⟩ := Cond.classLink_spec hown hlink e.platform hpl
  cases Option.some.inj (hc4.symm.trans hc5)
  obtain ⟨vm', X', st⟩ := X.thenCaughtThrough q (g := F0 m pc ls rest) rfl (Steps.refl _) (by rw [hT]; exact hcell) (by rw [hv]; rfl) (by obtain ⟨k9, h9, -⟩ := Vm.findClass_spec hcl; exact ⟨k9, h9⟩) pre x suf hsplit
    (fun z hz => by
      rcases hpass z hz with h | ⟨hz0, nm, hl1, hn1⟩
      · exact Or.inl h
      · obtain ⟨c6, hc6, hcl6⟩ := Cond.classLink_spec hown hl1 e.platform hpl
        obtain ⟨a8, b8, h1, h2, h3⟩ := hn1
        cases Option.some.inj (h1.symm.trans hcl)
        cases Option.some.inj (h2.symm.trans hc6)
        exact Or.inr ⟨hz0, _, hcl6, h3⟩) hx (Or.inr ⟨h0, c4, hcl5, hasg⟩)
  obtain ⟨t, a1, b1⟩ := kk (T.setVm vm') hT X'
  exact ⟨t, st.trans a1, b1⟩
end Rows
section Ends
variable {p : Program} {l : Launch} {e : Env} {R : Room} {s : State} {m : MethodId} {args : Array Value} {below : List Frame} {meth : Method} {c : Code} {H : Heap} {locs : List Loc} {cells slots : Nat} {Q : State → Prop}
variable {mc ms : Nat} {free : Addr → Prop} {A0 A1 : Nat → Prop} {H0 : Heap} {a : Array Value} {ls : Array Slot} {st0 rest : List Value}
variable {Qc : Array Value → State → Outcome → State → Prop} {XC : String → State → State → Prop}
/-- what a body that may throw owes at its end -/
def vx_MQ (below : List Frame) (Qc : Array Value → State → Outcome → State → Prop) (XC : String → State → State → Prop) (a : Array Value) (s : State) (mc ms : Nat) (free : Addr → Prop) : State → Prop := fun t =>
  ∃ o, t.status = .running ∧ Ended t below o ∧ vx_Q Qc XC mc ms free a s o t
theorem vx_ret {g : JFrame} {mc ms : Nat} (k : W p l e R s m args below meth c H locs cells slots (MQ below Qc args s mc ms free) g) : W p l e R s m args below meth c H locs cells slots (vx_MQ below Qc XC args s mc ms free) g := by
  intro T hT X
  obtain ⟨t, a1, o, b1, b2, b3, b4⟩ := k T hT X
  exact ⟨t, a1, o, b1, b2, Or.inl ⟨b3, b4⟩⟩
/-- not caught here: it goes on to the caller -/
theorem vx_widen {g : JFrame} {q : Addr} {k n : Nat} (h1 : cells ≤ k) (h2 : slots ≤ n) (kk : vx_W p l e R s m args below meth c H locs k n Q g q) : vx_W p l e R s m args below meth c H locs cells slots Q g q := fun T hT X => kk T hT (stand_widen X h1 h2)
theorem vx_out {pc : Nat} {E : String} {ce : Cell} {q : Addr} {mc ms : Nat} (hout : ∀ x ∈ c.exceptionTable.toList, covers x pc = false) (hlocks : meth.locks = false) (hcell : H[q]? = some ce) (hv : ce.vm = .none) (hcl : s.vm.findClass E = some ce.cls)
    (hx : ∀ t : State, t.heap = H → s.vm.Alike t.vm → XC E s t) (hf : ∀ z ∈ locs, free z.base) (hc : cells ≤ mc) (hs : slots ≤ ms) :
    vx_W p l e R s m args below meth c H locs cells slots (vx_MQ below Qc XC args s mc ms free) (F0 m pc ls rest) q := by
  intro T hT X
  obtain ⟨st1, hrun, hend, hW, hsm⟩ := X.leaveThrown q (g := F0 m pc ls rest) rfl rfl rfl hout hlocks
  have hcell9 : (T.setFrames (.throwing q :: below)).heap[q]? = some ce := by
    show T.heap[q]? = some ce
    rw [hT]; exact hcell
  exact ⟨_, st1, .threw q, hrun, hend, Or.inr ⟨q, rfl, E, ce, locs, hx _ hT hW.alike, hcell9, hv, hcl, hW, hsm.mono hc hs, hf⟩⟩
theorem vx_frame {U : State} {k n : Nat} (h : s.sameButNew ({ U with vm := s.vm } : State) locs k n) : s.heap.size ≤ U.heap.size ∧ ∀ q : Nat, q < s.heap.size → (∀ z ∈ locs, z.base ≠ q) → U.heap[q]? = s.heap[q]? := by
  obtain ⟨-, h2, -, -, -, h6⟩ := h
  refine ⟨h2, fun q hq hz => ?_⟩
  obtain ⟨c9, e1, e2, e3, e4⟩ := h6 q _ (Array.getElem?_eq_getElem hq)
  have hs : c9.slots = (s.heap[q]).slots := Array.ext_getElem? fun i => e4 i fun hm => hz _ hm rfl
  have h9 : c9 = s.heap[q] := by
    rw [hs] at e2
    exact e2
  have e5 : U.heap[q]? = some c9 := e1
  rw [e5, h9, Array.getElem?_eq_getElem hq]
/-- the words of a throw but the four that speak of the heap -/
def vx_no (w : Cond) : Bool := decide (w ≠ .isRef (.static Bundle.tN "UNASSIGNED_STACK" Bundle.steD)) && decide (w ≠ .isRef (.static Bundle.tN "SUPPRESSED_SENTINEL" Bundle.listD)) && decide (w ≠ .laysStatic Bundle.tN "UNASSIGNED_STACK" Bundle.steD) && decide (w ≠ .laysStatic Bundle.tN "SUPPRESSED_SENTINEL" Bundle.listD)
def vx_at0 (own : String) (ic : Nat) (X : String) (names : List String) : List Cond := (Bundle.ownAtoms0 own ic X names).filter vx_no
def vx_atS (own : String) (ic : Nat) (X : String) (names : List String) : List Cond := (Bundle.ownAtoms own ic X names).filter vx_no
/-- a word that the tables alone decide, or a good one -/
def vx_ot (w : Cond) : Bool := w.onTables || goodWord w
theorem vx_ot_at {args a' : Array Value} {s U : State} {w : Cond} (hW : s.WarmedH U.vm) (hvm : s.vm = U.vm) (hg : vx_ot w = true) (h : w.before args s = true) : w.before a' U = true := by
  simp only [vx_ot, Bool.or_eq_true] at hg
  rcases hg with hg | hg
  · exact va_tabs hg hvm h
  · exact word_at hW (good_of_word hg) h
/-- a list's words: the good ones out of the method's own list, the others by premises of their own -/
theorem vx_hat {args : Array Value} {s : State} {L B : List Cond} (h1 : ∀ w ∈ L.filter goodWord, w.before args s = true) (h2 : ∀ w ∈ L.filter (fun w => !goodWord w), w ∈ B) (h3 : ∀ w ∈ B, w.before args s = true) : ∀ w ∈ L, w.before args s = true := by
  intro w hw
  by_cases g : goodWord w = true
  · exact h1 w (List.mem_filter.mpr ⟨hw, g⟩)
  · refine h3 w (h2 w (List.mem_filter.mpr ⟨hw, ?_⟩))
    show (!goodWord w) = true
    cases hgw : goodWord w
    · rfl
    · exact absurd hgw g
theorem vx_c {args : Array Value} {s : State} {w : Cond} {B : List Cond} (h : w.before args s = true) (t : ∀ w ∈ B, w.before args s = true) : ∀ w' ∈ w :: B, w'.before args s = true := fun w' h' => (List.mem_cons.mp h').elim (fun e => by rw [e]; exact h) (t w')
theorem vx_n {args : Array Value} {s : State} : ∀ w ∈ ([] : List Cond), w.before args s = true := fun _ h => nomatch h
theorem vx_own {args : Array Value} {s : State} {L : List Cond} (h1 : ∀ w ∈ L.filter vx_no, w.before args s = true)
    (hU : (Cond.isRef (.static Bundle.tN "UNASSIGNED_STACK" Bundle.steD)).before args s = true) (hN : (Cond.isRef (.static Bundle.tN "SUPPRESSED_SENTINEL" Bundle.listD)).before args s = true)
    (lU : (Cond.laysStatic Bundle.tN "UNASSIGNED_STACK" Bundle.steD).before args s = true) (lN : (Cond.laysStatic Bundle.tN "SUPPRESSED_SENTINEL" Bundle.listD).before args s = true) : ∀ w ∈ L, w.before args s = true := by
  intro w hw
  by_cases e1 : w = .isRef (.static Bundle.tN "UNASSIGNED_STACK" Bundle.steD)
  · rw [e1]; exact hU
  · by_cases e2 : w = .isRef (.static Bundle.tN "SUPPRESSED_SENTINEL" Bundle.listD)
    · rw [e2]; exact hN
    · by_cases e3 : w = .laysStatic Bundle.tN "UNASSIGNED_STACK" Bundle.steD
      · rw [e3]; exact lU
      · by_cases e4 : w = .laysStatic Bundle.tN "SUPPRESSED_SENTINEL" Bundle.listD
        · rw [e4]; exact lN
        · exact h1 w (List.mem_filter.mpr ⟨hw, by unfold vx_no; rw [decide_eq_true e1, decide_eq_true e2, decide_eq_true e3, decide_eq_true e4]; rfl⟩)
/-- where a static field lies, its class's statics cell in H -/
def vx_L (C n d : String) (A : Nat → Prop) (U : State) (H : Heap) : Prop := ∃ (c : ClassId) (k : Class) (i : Nat) (f : Field) (a : Nat) (cell : Cell), U.vm.findClass C = some c ∧ U.fieldFound? C n d = some (c, k, i, f) ∧ f.isStatic = true ∧ k.statics = some a ∧ H[a]? = some cell ∧ cell.vm.isStatics = true ∧ cell.cls = c ∧ f.slot < cell.slots.size ∧ k.staticTypes[f.slot]? = some f.type ∧ ¬ A a
theorem vx_L.moved {C n d : String} {A : Nat → Prop} {u U : State} {H : Heap} (hvm : u.vm.Alike U.vm) (h : vx_L C n d A u H) : vx_L C n d A U H := by
  obtain ⟨c, k, i, f, a, cell, h1, h2, h3, h4, h5, h6, h7, h8, h9, h10⟩ := h
  obtain ⟨k', hi', he⟩ := State.fieldFound?_setVm hvm h2
  exact ⟨c, k', i, f, a, cell, by rw [hvm.findClass]; exact h1, hi', h3, by rw [he]; exact h4, h5, h6, h7, h8, by rw [he]; exact h9, h10⟩
theorem vx_L.kept {C n d : String} {A : Nat → Prop} {U : State} {H H1 : Heap} (h : vx_L C n d A U H) (hq : ∀ a : Nat, a < H.size → ¬ A a → H1[a]? = H[a]?) : vx_L C n d A U H1 := by
  obtain ⟨c, k, i, f, a, cell, h1, h2, h3, h4, h5, h6, h7, h8, h9, h10⟩ := h
  exact ⟨c, k, i, f, a, cell, h1, h2, h3, h4, by rw [hq a (Array.getElem?_eq_some_iff.mp h5).1 h10]; exact h5, h6, h7, h8, h9, h10⟩
theorem vx_L.narrow {C n d : String} {A B : Nat → Prop} {U : State} {H : Heap} (h : vx_L C n d A U H) (hAB : ∀ q, B q → A q) : vx_L C n d B U H := by
  obtain ⟨c, k, i, f, a, cell, h1, h2, h3, h4, h5, h6, h7, h8, h9, h10⟩ := h
  exact ⟨c, k, i, f, a, cell, h1, h2, h3, h4, h5, h6, h7, h8, h9, fun z => h10 (hAB _ z)⟩
theorem vx_L.word {C n d : String} {A : Nat → Prop} {s : State} {args : Array Value} (h : vx_L C n d A s s.heap) : (Cond.laysStatic C n d).before args s = true := by
  obtain ⟨c, k, i, f, a, cell, h1, h2, h3, h4, h5, h6, h7, h8, h9, -⟩ := h
  show (Cond.laysStatic C n d).holds args s none s [] = true
  exact Cond.laysStatic_of h1 h2 h3 h4 h5 h6 h7 h8 h9
/-- .. and what it holds: null or some reference -/
def vx_Zq (C n d : String) (A : Nat → Prop) (U : State) (H : Heap) : Prop := va_Zq C n d A U H ∧ vx_L C n d A U H
theorem vx_Zq.moved {C n d : String} {A : Nat → Prop} {u U : State} {H : Heap} (hvm : u.vm.Alike U.vm) (h : vx_Zq C n d A u H) : vx_Zq C n d A U H := ⟨va_Zq.moved hvm h.1, vx_L.moved hvm h.2⟩
theorem vx_Zq.kept {C n d : String} {A : Nat → Prop} {U : State} {H H1 : Heap} (h : vx_Zq C n d A U H) (hq : ∀ a : Nat, a < H.size → ¬ A a → H1[a]? = H[a]?) : vx_Zq C n d A U H1 := ⟨va_Zq.kept h.1 hq, vx_L.kept h.2 hq⟩
theorem vx_Zq.narrow {C n d : String} {A B : Nat → Prop} {U : State} {H : Heap} (h : vx_Zq C n d A U H) (hAB : ∀ q, B q → A q) : vx_Zq C n d B U H := ⟨va_Zq.narrow h.1 hAB, vx_L.narrow h.2 hAB⟩
theorem vx_Zqof {args : Array Value} {s : State} {C n d : String} {A : Nat → Prop} (hl : (Cond.laysStatic C n d).before args s = true) (hini : (Cond.initialized C).before args s = true) (h : (Cond.isRef (.static C n d)).before args s = true) (hA : ∀ a : Nat, a < s.heap.size → ¬ A a) : vx_Zq C n d A s s.heap := by
  refine ⟨va_Zqof hl hini h hA, ?_⟩
  obtain ⟨c, k, i, f, a, cell, h1, h2, h3, h4, h5, h6, h7, h8, h9⟩ := Cond.laysStatic_spec hl
  exact ⟨c, k, i, f, a, cell, h1, h2, h3, h4, h5, h6, h7, h8, h9, hA a (Array.getElem?_eq_some_iff.mp h5).1⟩
theorem vx_isRef {C n d : String} {v : Value} {A : Nat → Prop} {s : State} {args : Array Value} (h : va_Z C n d v A s s.heap) (hv : v.isRef = true) : (Cond.isRef (.static C n d)).before args s = true := by
  obtain ⟨cf, kf, fi, f, a, cell, h1, h2, h3, h4, h5, h6, h7, -⟩ := h
  have he : (Term.static C n d).eval args s none [] s = some v := by
    simp [Term.eval, State.fieldNamed?, h1, h2, h4, h5, h6, h7]
  simp only [Cond.before, Cond.holds, Cond.value, he]
  cases v <;> simp_all [Value.isRef]
theorem vx_isRefq {C n d : String} {A : Nat → Prop} {s : State} {args : Array Value} (h : va_Zq C n d A s s.heap) : (Cond.isRef (.static C n d)).before args s = true := by
  rcases h with h | ⟨t, h⟩
  · exact vx_isRef h rfl
  · exact vx_isRef h rfl
/-- the same frame, seen from here: as if the method were called anew in this heap -/
theorem vx_rebase {T : State} (X : Stand p l e R s m args below meth c T locs cells slots) {R' : Room} (hf : R'.frames ≤ R.frames) (hl : R'.locals ≤ R.locals) (hc : cells + R'.cells ≤ R.cells) (hs : slots + R'.slots ≤ R.slots) :
    Stand p l e R' ((T.setVm s.vm).setFrames (.invoking m args :: below)) m args below meth c T [] 0 0 := by
  have htop : (T.setVm s.vm).topJava?.isSome := X.here.top
  have hF : ((T.setVm s.vm).setFrames (.invoking m args :: below)).frames = .invoking m args :: below := State.frames_setFrames _ (State.cur_lt_of_top htop)
  obtain ⟨g₀, hg0⟩ := Option.isSome_iff_exists.mp htop
  obtain ⟨r, hr⟩ := State.topJava?_eq_some.mp hg0
  have hl9 : e.platform.stackLimits (T.setVm s.vm).me = e.platform.stackLimits s.me := X.limits
  have hb9 : (T.setVm s.vm).me.stackBytes = s.me.stackBytes := X.bytes
  refine ⟨X.admits, X.cas, X.clock, hF, ?_, X.hears, X.method, X.code, X.here, X.tail, X.warmed, ?_, ?_, ?_⟩
  · have h := X.room
    have hU : ((T.setVm s.vm).setFrames (.invoking m args :: below)).localsInUse = s.localsInUse := by
      rw [State.localsInUse_invoking hF (meth := meth) (c := c) X.method X.code, State.localsInUse_invoking X.frames X.method X.code]
    simp only [State.hasRoom, Bool.and_eq_true, decide_eq_true_eq] at h ⊢
    obtain ⟨⟨⟨⟨h1, h2, h3, h4, h5, h6⟩, h7⟩, h8⟩, h9⟩ := h
    rw [X.frames, List.length_cons] at h2 h3
    have q1 := X.heapSize
    have q2 := X.used
    simp only [hF, hU, List.length_cons, State.stackLimits_setFrames, State.stackBytes_setFrames, hl9, hb9]
    refine ⟨⟨⟨⟨by omega, by omega, by omega, by omega, by omega, h6⟩, ?_⟩, ?_⟩, X.book⟩
    · show T.heap.size + R'.cells ≤ e.platform.maxCells
      omega
    · show T.slotsUsed + R'.slots ≤ e.platform.maxSlots
      omega
  · rw [State.stackLimits_setFrames]; rfl
  · rw [State.stackBytes_setFrames]; rfl
  · refine ⟨?_, Nat.le_refl _, Nat.le_refl _, ?_, ?_, fun a c9 h9 => ⟨c9, h9, rfl, rfl, fun _ _ => rfl⟩⟩
    · obtain ⟨t, ht, -⟩ := State.frames_cons hr
      show T.setVm s.vm = { ((T.setVm s.vm).setFrames (.invoking m args :: below)).setFrames (T.setVm s.vm).frames with heap := T.heap, slotsUsed := T.slotsUsed }
      rw [State.setFrames_setFrames, State.setFrames_self ht]
      rfl
    · show T.slotsUsed = T.slotsUsed + ((T.heap.toList.drop T.heap.size).map (·.slots.size)).sum
      rw [List.drop_eq_nil_of_le (Nat.le_of_eq Array.length_toList)]
      rfl
    · show ((T.heap.toList.drop T.heap.size).map (·.slots.size)).sum ≤ 0
      rw [List.drop_eq_nil_of_le (Nat.le_of_eq Array.length_toList)]
      exact Nat.le_refl _
/-- 'throw new E()': new; dup; invokespecial; athrow -/
theorem vx_throw0 {cc : ByteArray} {pc : Nat} (hexec : p.tables.exec = Jvm.exec) (hb : c.code = cc) (hl : l.stackTraces = false) {own cls : String} {names : List String} {ik ic mc ms : Nat} {A : Nat → Prop}
    (hown : s.vm.findClass own = some m.cls) (hcls : Bundle.fit cls = true) (hnames : ∀ n ∈ names, Bundle.fit n = true)
    (hk : (Cond.classLink own ik cls).before args s = true) (hini : (Cond.initialized cls).before args s = true) (hat : ∀ w ∈ vx_at0 own ic cls names, w.before args s = true)
    (hgood : ∀ w ∈ Cond.classLink own ik cls :: Cond.initialized cls :: vx_at0 own ic cls names, vx_ot w = true)
    (hU : vx_Zq Bundle.tN "UNASSIGNED_STACK" Bundle.steD A s s.heap) (hN : vx_Zq Bundle.tN "SUPPRESSED_SENTINEL" Bundle.listD A s s.heap) (hS : va_S A s.heap H locs) (hsize : ls.size = c.maxLocals)
    (d0 : decode cc pc = .ok (.new ik, 3)) (d3 : decode cc (pc + 3) = .ok (.dup, 1)) (d4 : decode cc (pc + 4) = .ok (.invokespecial ic, 3)) (d7 : decode cc (pc + 7) = .ok (.athrow, 1))
    (hout : ∀ x ∈ c.exceptionTable.toList, covers x (pc + 7) = false)
    (hRframes : names.length + 3 < R.frames) (hRlocals : (rest.map fun v => v.category).sum + (13 * (names.length + 1) + 42) ≤ R.locals) (hRcells : cells + 1 ≤ R.cells) (hRslots : slots + 6 ≤ R.slots) (hlocks : meth.locks = false)
    (hx : ∀ t : State, s.vm.Alike t.vm → H.size ≤ t.heap.size → (∀ q : Nat, q < H.size → t.heap[q]? = H[q]?) → XC cls s t)
    (hf : ∀ z ∈ locs, free z.base) (hc : cells + 1 ≤ mc) (hs : slots + 6 ≤ ms) :
    W p l e R s m args below meth c H locs cells slots (vx_MQ below Qc XC args s mc ms free) (F0 m pc ls rest) := by
  intro T hT X
  have htr : e.platform.stackTraces = false := (show e.platform.stackTraces = l.stackTraces by rw [X.admits.platform]).trans hl
  have Y := vx_rebase X (R' := { frames := R.frames, locals := R.locals, cells := 1, slots := 6 }) (Nat.le_refl _) (Nat.le_refl _) hRcells hRslots
  obtain ⟨s', hA⟩ : ∃ z, z = (T.setVm s.vm).setFrames (.invoking m args :: below) := ⟨_, rfl⟩
  rw [← hA] at Y
  have hvm : s'.vm = s.vm := by rw [hA]; rfl
  have hhp : s'.heap = H := by rw [hA]; exact hT
  have hW0 : s.WarmedH s'.vm := by rw [hvm]; exact State.WarmedH.refl s
  have hat' : ∀ w ∈ vx_at0 own ic cls names, w.before args s' = true := fun w hw => vx_ot_at hW0 hvm.symm (hgood w (List.mem_cons_of_mem _ (List.mem_cons_of_mem _ hw))) (hat w hw)
  have hk' : (Cond.classLink own ik cls).before args s' = true := vx_ot_at hW0 hvm.symm (hgood _ List.mem_cons_self) hk
  have hini' : (Cond.initialized cls).before args s' = true := vx_ot_at hW0 hvm.symm (hgood _ (List.mem_cons_of_mem _ List.mem_cons_self)) hini
  have hU' : vx_Zq Bundle.tN "UNASSIGNED_STACK" Bundle.steD A s' s'.heap := by rw [hhp]; exact vx_Zq.moved hW0.alike (hU.kept hS.2.1)
  have hN' : vx_Zq Bundle.tN "SUPPRESSED_SENTINEL" Bundle.listD A s' s'.heap := by rw [hhp]; exact vx_Zq.moved hW0.alike (hN.kept hS.2.1)
  have h : ∀ w ∈ Bundle.ownAtoms0 own ic cls names, w.before args s' = true := vx_own hat' (vx_isRefq hU'.1) (vx_isRefq hN'.1) hU'.2.word hN'.2.word
  have hown' : s'.vm.findClass own = some m.cls := by rw [hvm]; exact hown
  have hins : (Cond.instantiable cls 6).before args s' = true := h _ (by simp [Bundle.ownAtoms0])
  obtain ⟨vm₁, cX, kX, hfX, hkX, -, -, X₁, st1⟩ := Y.newCold hexec (own := own) (C := cls) (index := ik) (n := 6) hown' hk' hins hini'
    (g := F0 m pc ls rest) rfl (by rw [hb]; exact d0) (Nat.le_refl _) (Nat.le_refl _)
  generalize hT1 : (T.setVm vm₁).pushCell { cls := cX, slots := kX.instanceTypes.map defaultValue, vm := .none } = T1 at X₁ st1
  have hcat : (Value.ref T.heap.size).category = 1 := rfl
  have hcellA : T1.heap[T.heap.size]? = some (freshCell cX kX) := by rw [← hT1]; exact State.heap_pushCell_size _ _
  have d3' : decode c.code (pc + 3) = .ok (.dup, 1) := by rw [hb]; exact d3
  obtain ⟨U, hsteps, hrun, hend, hW, hsame, ce, hce, hO⟩ := X₁.ctorThrow0 hexec htr (own := own) (cls := cls) (names := names) (ic := ic) hown' hcls hnames h (fun x hx => nomatch hx) hfX hkX hcellA (by rw [hhp, hT]; exact Nat.le_refl _)
    (g := { method := m, pc := pc + 4, locals := ls, stack := .ref T.heap.size :: .ref T.heap.size :: rest, locked := none }) rfl hsize rfl rfl (rest := rest) rfl
    (by rw [hb]; exact d4) (by rw [hb]; exact d7) hout hRframes (by simp only [List.map_cons, List.sum_cons, hcat]; omega) hlocks
  obtain ⟨f1, f2⟩ := vx_frame hsame
  rw [hhp] at f1 f2
  have hWs : s.WarmedH U.vm := State.WarmedH.trans hW0 hW
  have hcl : s.vm.findClass cls = some ce.cls := by
    have h9 := hO.cls
    rw [hvm] at h9
    exact h9
  have hall : s.sameButNew ({ U with vm := s.vm } : State) locs mc ms := by
    subst hA
    obtain ⟨e1, e2⟩ := hsame
    rw [State.setFrames_setFrames] at e1
    have h2 : (T.setVm s.vm).sameButNew ({ U with vm := s.vm } : State) [] (0 + 1) (0 + 6) := ⟨e1, e2⟩
    have h3 := X.same.trans h2
    rw [List.append_nil] at h3
    exact h3.mono hc hs
  refine ⟨U, ?_, .threw T.heap.size, hrun, hend, Or.inr ⟨T.heap.size, rfl, cls, ce, locs, hx U hWs.alike f1 (fun q hq => f2 q hq (fun z hz => nomatch hz)), hce, hO.vm, hcl, hWs, hall, hf⟩⟩
  refine st1 _ ?_
  show Steps p.tables e below (T1.setTop { method := m, pc := pc + 3, locals := ls, stack := .ref T.heap.size :: rest, locked := none }) _
  jvm_step X₁.here [X₁.here.top, hexec, d3', Value.category]
  exact hsteps
/-- 'throw new E("text")': new; dup; ldc; invokespecial; athrow -/
theorem vx_throwS {cc : ByteArray} {pc : Nat} (hexec : p.tables.exec = Jvm.exec) (hb : c.code = cc) (hl : l.stackTraces = false) {own cls text : String} {names : List String} {ik is ic mc ms sa : Nat} {A : Nat → Prop}
    (hown : s.vm.findClass own = some m.cls) (hcls : Bundle.fit cls = true) (hnames : ∀ n ∈ names, Bundle.fit n = true)
    (hk : (Cond.classLink own ik cls).before args s = true) (hini : (Cond.initialized cls).before args s = true) (hstr : vk_R own is text sa s) (hat : ∀ w ∈ vx_atS own ic cls names, w.before args s = true)
    (hgood : ∀ w ∈ Cond.classLink own ik cls :: Cond.initialized cls :: vx_atS own ic cls names, vx_ot w = true)
    (hU : vx_Zq Bundle.tN "UNASSIGNED_STACK" Bundle.steD A s s.heap) (hN : vx_Zq Bundle.tN "SUPPRESSED_SENTINEL" Bundle.listD A s s.heap) (hS : va_S A s.heap H locs) (hsize : ls.size = c.maxLocals)
    (d0 : decode cc pc = .ok (.new ik, 3)) (d3 : decode cc (pc + 3) = .ok (.dup, 1)) (d4 : decode cc (pc + 4) = .ok (.ldc is, 2)) (d6 : decode cc (pc + 6) = .ok (.invokespecial ic, 3)) (d9 : decode cc (pc + 9) = .ok (.athrow, 1))
    (hout : ∀ x ∈ c.exceptionTable.toList, covers x (pc + 9) = false)
    (hRframes : names.length + 3 < R.frames) (hRlocals : (rest.map fun v => v.category).sum + (13 * (names.length + 1) + 43) ≤ R.locals) (hRcells : cells + 1 ≤ R.cells) (hRslots : slots + 6 ≤ R.slots) (hlocks : meth.locks = false)
    (hx : ∀ t : State, s.vm.Alike t.vm → H.size ≤ t.heap.size → (∀ q : Nat, q < H.size → t.heap[q]? = H[q]?) → XC cls s t)
    (hf : ∀ z ∈ locs, free z.base) (hc : cells + 1 ≤ mc) (hs : slots + 6 ≤ ms) :
    W p l e R s m args below meth c H locs cells slots (vx_MQ below Qc XC args s mc ms free) (F0 m pc ls rest) := by
  intro T hT X
  have htr : e.platform.stackTraces = false := (show e.platform.stackTraces = l.stackTraces by rw [X.admits.platform]).trans hl
  have Y := vx_rebase X (R' := { frames := R.frames, locals := R.locals, cells := 1, slots := 6 }) (Nat.le_refl _) (Nat.le_refl _) hRcells hRslots
  obtain ⟨s', hA⟩ : ∃ z, z = (T.setVm s.vm).setFrames (.invoking m args :: below) := ⟨_, rfl⟩
  rw [← hA] at Y
  have hvm : s'.vm = s.vm := by rw [hA]; rfl
  have hhp : s'.heap = H := by rw [hA]; exact hT
  have hW0 : s.WarmedH s'.vm := by rw [hvm]; exact State.WarmedH.refl s
  have hat' : ∀ w ∈ vx_atS own ic cls names, w.before args s' = true := fun w hw => vx_ot_at hW0 hvm.symm (hgood w (List.mem_cons_of_mem _ (List.mem_cons_of_mem _ hw))) (hat w hw)
  have hk' : (Cond.classLink own ik cls).before args s' = true := vx_ot_at hW0 hvm.symm (hgood _ List.mem_cons_self) hk
  have hini' : (Cond.initialized cls).before args s' = true := vx_ot_at hW0 hvm.symm (hgood _ (List.mem_cons_of_mem _ List.mem_cons_self)) hini
  have hU' : vx_Zq Bundle.tN "UNASSIGNED_STACK" Bundle.steD A s' s'.heap := by rw [hhp]; exact vx_Zq.moved hW0.alike (hU.kept hS.2.1)
  have hN' : vx_Zq Bundle.tN "SUPPRESSED_SENTINEL" Bundle.listD A s' s'.heap := by rw [hhp]; exact vx_Zq.moved hW0.alike (hN.kept hS.2.1)
  have h : ∀ w ∈ Bundle.ownAtoms own ic cls names, w.before args s' = true := vx_own hat' (vx_isRefq hU'.1) (vx_isRefq hN'.1) hU'.2.word hN'.2.word
  have hown' : s'.vm.findClass own = some m.cls := by rw [hvm]; exact hown
  have hins : (Cond.instantiable cls 6).before args s' = true := h _ (by simp [Bundle.ownAtoms])
  obtain ⟨vm₁, cX, kX, hfX, hkX, -, -, X₁, st1⟩ := Y.newCold hexec (own := own) (C := cls) (index := ik) (n := 6) hown' hk' hins hini'
    (g := F0 m pc ls rest) rfl (by rw [hb]; exact d0) (Nat.le_refl _) (Nat.le_refl _)
  generalize hT1 : (T.setVm vm₁).pushCell { cls := cX, slots := kX.instanceTypes.map defaultValue, vm := .none } = T1 at X₁ st1
  have hcat : (Value.ref T.heap.size).category = 1 := rfl
  have hcellA : T1.heap[T.heap.size]? = some (freshCell cX kX) := by rw [← hT1]; exact State.heap_pushCell_size _ _
  have d3' : decode c.code (pc + 3) = .ok (.dup, 1) := by rw [hb]; exact d3
  have d4' : decode c.code (pc + 4) = .ok (.ldc is, 2) := by rw [hb]; exact d4
  have hstr' : vk_R own is text sa s' := vk_R.warm hW0 hstr
  obtain ⟨U, hsteps, hrun, hend, hW, hsame, ce, hce, hO⟩ := X₁.ctorThrowS hexec htr (own := own) (cls := cls) (names := names) (ic := ic) hown' hcls hnames h (fun x hx => nomatch hx) hfX hkX hcellA (by rw [hhp, hT]; exact Nat.le_refl _) (msg := .ref sa) rfl
    (g := { method := m, pc := pc + 6, locals := ls, stack := .ref sa :: .ref T.heap.size :: .ref T.heap.size :: rest, locked := none }) rfl hsize rfl rfl (rest := rest) rfl
    (by rw [hb]; exact d6) (by rw [hb]; exact d9) hout hRframes (by simp only [List.map_cons, List.sum_cons, hcat]; omega) hlocks
  obtain ⟨f1, f2⟩ := vx_frame hsame
  rw [hhp] at f1 f2
  have hWs : s.WarmedH U.vm := State.WarmedH.trans hW0 hW
  have hcl : s.vm.findClass cls = some ce.cls := by
    have h9 := hO.cls
    rw [hvm] at h9
    exact h9
  have hall : s.sameButNew ({ U with vm := s.vm } : State) locs mc ms := by
    subst hA
    obtain ⟨e1, e2⟩ := hsame
    rw [State.setFrames_setFrames] at e1
    have h2 : (T.setVm s.vm).sameButNew ({ U with vm := s.vm } : State) [] (0 + 1) (0 + 6) := ⟨e1, e2⟩
    have h3 := X.same.trans h2
    rw [List.append_nil] at h3
    exact h3.mono hc hs
  refine ⟨U, ?_, .threw T.heap.size, hrun, hend, Or.inr ⟨T.heap.size, rfl, cls, ce, locs, hx U hWs.alike f1 (fun q hq => f2 q hq (fun z hz => nomatch hz)), hce, hO.vm, hcl, hWs, hall, hf⟩⟩
  refine st1 _ ?_
  show Steps p.tables e below (T1.setTop { method := m, pc := pc + 3, locals := ls, stack := .ref T.heap.size :: rest, locked := none }) _
  jvm_step X₁.here [X₁.here.top, hexec, d3', Value.category]
  exact X₁.ldcString hexec (own := own) (text := text) (index := is) (a := sa) hown' hstr'.1 hstr'.2
    (g := { method := m, pc := pc + 4, locals := ls, stack := .ref T.heap.size :: .ref T.heap.size :: rest, locked := none }) rfl d4' _ hsteps
/-- 'throw new E("text")', the text by a wide index -/
theorem vx_throwSW {cc : ByteArray} {pc : Nat} (hexec : p.tables.exec = Jvm.exec) (hb : c.code = cc) (hl : l.stackTraces = false) {own cls text : String} {names : List String} {ik is ic mc ms sa : Nat} {A : Nat → Prop}
    (hown : s.vm.findClass own = some m.cls) (hcls : Bundle.fit cls = true) (hnames : ∀ n ∈ names, Bundle.fit n = true)
    (hk : (Cond.classLink own ik cls).before args s = true) (hini : (Cond.initialized cls).before args s = true) (hstr : vk_R own is text sa s) (hat : ∀ w ∈ vx_atS own ic cls names, w.before args s = true)
    (hgood : ∀ w ∈ Cond.classLink own ik cls :: Cond.initialized cls :: vx_atS own ic cls names, vx_ot w = true)
    (hU : vx_Zq Bundle.tN "UNASSIGNED_STACK" Bundle.steD A s s.heap) (hN : vx_Zq Bundle.tN "SUPPRESSED_SENTINEL" Bundle.listD A s s.heap) (hS : va_S A s.heap H locs) (hsize : ls.size = c.maxLocals)
    (d0 : decode cc pc = .ok (.new ik, 3)) (d3 : decode cc (pc + 3) = .ok (.dup, 1)) (d4 : decode cc (pc + 4) = .ok (.ldc_w is, 3)) (d7 : decode cc (pc + 7) = .ok (.invokespecial ic, 3)) (d10 : decode cc (pc + 10) = .ok (.athrow, 1))
    (hout : ∀ x ∈ c.exceptionTable.toList, covers x (pc + 10) = false)
    (hRframes : names.length + 3 < R.frames) (hRlocals : (rest.map fun v => v.category).sum + (13 * (names.length + 1) + 43) ≤ R.locals) (hRcells : cells + 1 ≤ R.cells) (hRslots : slots + 6 ≤ R.slots) (hlocks : meth.locks = false)
    (hx : ∀ t : State, s.vm.Alike t.vm → H.size ≤ t.heap.size → (∀ q : Nat, q < H.size → t.heap[q]? = H[q]?) → XC cls s t)
    (hf : ∀ z ∈ locs, free z.base) (hc : cells + 1 ≤ mc) (hs : slots + 6 ≤ ms) :
    W p l e R s m args below meth c H locs cells slots (vx_MQ below Qc XC args s mc ms free) (F0 m pc ls rest) := by
  intro T hT X
  have htr : e.platform.stackTraces = false := (show e.platform.stackTraces = l.stackTraces by rw [X.admits.platform]).trans hl
  have Y := vx_rebase X (R' := { frames := R.frames, locals := R.locals, cells := 1, slots := 6 }) (Nat.le_refl _) (Nat.le_refl _) hRcells hRslots
  obtain ⟨s', hA⟩ : ∃ z, z = (T.setVm s.vm).setFrames (.invoking m args :: below) := ⟨_, rfl⟩
  rw [← hA] at Y
  have hvm : s'.vm = s.vm := by rw [hA]; rfl
  have hhp : s'.heap = H := by rw [hA]; exact hT
  have hW0 : s.WarmedH s'.vm := by rw [hvm]; exact State.WarmedH.refl s
  have hat' : ∀ w ∈ vx_atS own ic cls names, w.before args s' = true := fun w hw => vx_ot_at hW0 hvm.symm (hgood w (List.mem_cons_of_mem _ (List.mem_cons_of_mem _ hw))) (hat w hw)
  have hk' : (Cond.classLink own ik cls).before args s' = true := vx_ot_at hW0 hvm.symm (hgood _ List.mem_cons_self) hk
  have hini' : (Cond.initialized cls).before args s' = true := vx_ot_at hW0 hvm.symm (hgood _ (List.mem_cons_of_mem _ List.mem_cons_self)) hini
  have hU' : vx_Zq Bundle.tN "UNASSIGNED_STACK" Bundle.steD A s' s'.heap := by rw [hhp]; exact vx_Zq.moved hW0.alike (hU.kept hS.2.1)
  have hN' : vx_Zq Bundle.tN "SUPPRESSED_SENTINEL" Bundle.listD A s' s'.heap := by rw [hhp]; exact vx_Zq.moved hW0.alike (hN.kept hS.2.1)
  have h : ∀ w ∈ Bundle.ownAtoms own ic cls names, w.before args s' = true := vx_own hat' (vx_isRefq hU'.1) (vx_isRefq hN'.1) hU'.2.word hN'.2.word
  have hown' : s'.vm.findClass own = some m.cls := by rw [hvm]; exact hown
  have hins : (Cond.instantiable cls 6).before args s' = true := h _ (by simp [Bundle.ownAtoms])
  obtain ⟨vm₁, cX, kX, hfX, hkX, -, -, X₁, st1⟩ := Y.newCold hexec (own := own) (C := cls) (index := ik) (n := 6) hown' hk' hins hini'
    (g := F0 m pc ls rest) rfl (by rw [hb]; exact d0) (Nat.le_refl _) (Nat.le_refl _)
  generalize hT1 : (T.setVm vm₁).pushCell { cls := cX, slots := kX.instanceTypes.map defaultValue, vm := .none } = T1 at X₁ st1
  have hcat : (Value.ref T.heap.size).category = 1 := rfl
  have hcellA : T1.heap[T.heap.size]? = some (freshCell cX kX) := by rw [← hT1]; exact State.heap_pushCell_size _ _
  have d3' : decode c.code (pc + 3) = .ok (.dup, 1) := by rw [hb]; exact d3
  have d4' : decode c.code (pc + 4) = .ok (.ldc_w is, 3) := by rw [hb]; exact d4
  have hstr' : vk_R own is text sa s' := vk_R.warm hW0 hstr
  obtain ⟨U, hsteps, hrun, hend, hW, hsame, ce, hce, hO⟩ := X₁.ctorThrowS hexec htr (own := own) (cls := cls) (names := names) (ic := ic) hown' hcls hnames h (fun x hx => nomatch hx) hfX hkX hcellA (by rw [hhp, hT]; exact Nat.le_refl _) (msg := .ref sa) rfl
    (g := { method := m, pc := pc + 7, locals := ls, stack := .ref sa :: .ref T.heap.size :: .ref T.heap.size :: rest, locked := none }) rfl hsize rfl rfl (rest := rest) rfl
    (by rw [hb]; exact d7) (by rw [hb]; exact d10) hout hRframes (by simp only [List.map_cons, List.sum_cons, hcat]; omega) hlocks
  obtain ⟨f1, f2⟩ := vx_frame hsame
  rw [hhp] at f1 f2
  have hWs : s.WarmedH U.vm := State.WarmedH.trans hW0 hW
  have hcl : s.vm.findClass cls = some ce.cls := by
    have h9 := hO.cls
    rw [hvm] at h9
    exact h9
  have hall : s.sameButNew ({ U with vm := s.vm } : State) locs mc ms := by
    subst hA
    obtain ⟨e1, e2⟩ := hsame
    rw [State.setFrames_setFrames] at e1
    have h2 : (T.setVm s.vm).sameButNew ({ U with vm := s.vm } : State) [] (0 + 1) (0 + 6) := ⟨e1, e2⟩
    have h3 := X.same.trans h2
    rw [List.append_nil] at h3
    exact h3.mono hc hs
  refine ⟨U, ?_, .threw T.heap.size, hrun, hend, Or.inr ⟨T.heap.size, rfl, cls, ce, locs, hx U hWs.alike f1 (fun q hq => f2 q hq (fun z hz => nomatch hz)), hce, hO.vm, hcl, hWs, hall, hf⟩⟩
  refine st1 _ ?_
  show Steps p.tables e below (T1.setTop { method := m, pc := pc + 3, locals := ls, stack := .ref T.heap.size :: rest, locked := none }) _
  jvm_step X₁.here [X₁.here.top, hexec, d3', Value.category]
  exact X₁.ldcStringW hexec (own := own) (text := text) (index := is) (a := sa) hown' hstr'.1 hstr'.2
    (g := { method := m, pc := pc + 4, locals := ls, stack := .ref T.heap.size :: .ref T.heap.size :: rest, locked := none }) rfl d4' _ hsteps
end Ends
section Bodies
variable {l : Launch}
theorem vx_ofW {y : MethodName} {ws ws' : List Cond} {rm : Room} {Pc : Array Value → State → Prop} {Qc : Array Value → State → Outcome → State → Prop} {XC : String → State → State → Prop} {mc ms : Nat} {free : Addr → Prop} {cc : ByteArray} {maxL : Nat} {ret : Option FieldType}
    (hy : plainName y.cls = true) (hw : ws = Cond.code y cc maxL ret :: ws')
    (body : ∀ p e s m args below meth c s₁, BodyLoose p l y (headSpec ws rm) cc maxL ret e s m args below meth c s₁ → c.maxLocals = maxL → (∀ x ∈ c.exceptionTable.toList, False) → Pc args s →
      W p l e (headSpec ws rm).room s m args below meth c s.heap [] 0 0 (vx_MQ below Qc XC args s mc ms free) (entryFrame m args maxL)) : vx_Met l y ws rm Pc Qc XC mc ms free := by
  refine MetFree.of_bodyS (code := cc) (maxLocals := maxL) (ret := ret) hy ?_ ?_
  · intro args s m h hn
    obtain ⟨meth, c, h1, h2, h3, h4, h5, h6, -, -⟩ := Cond.code_spec hn (atoms_spec (ws := ws) h _ (by rw [hw]; exact List.mem_cons_self))
    exact ⟨meth, c, h1, h2, h3, h4, h5, h6⟩
  · intro p e s m args below meth c s₁ B hml hP _
    have hh0 : s₁.heap = s.heap := by rw [B.state]; rfl
    have ht : ∀ x ∈ c.exceptionTable.toList, False := by
      obtain ⟨meth9, c9, h1, h2, -, -, -, -, h7, -⟩ := Cond.code_spec B.named (atoms_spec (ws := ws) B.pre _ (by rw [hw]; exact List.mem_cons_self))
      cases Option.some.inj (h1.symm.trans B.method)
      cases Option.some.inj (h2.symm.trans (Stand.of_body B).code)
      intro x hx
      rw [Array.isEmpty_iff.mp h7] at hx
      cases hx
    obtain ⟨t, a1, o, b1, b2, b3⟩ := body p e s m args below meth c s₁ B hml ht hP s₁ hh0 (Stand.of_body B)
    exact ⟨t, o, a1, b1, b2, b3⟩
/-- the table of a body with handlers -/
theorem vx_table {p : Program} {x y : MethodName} {S : Spec} {cc bytes : ByteArray} {maxL maxL' : Nat} {ret ret' : Option FieldType} {e : Env} {s s₁ : State} {m : MethodId} {args : Array Value} {below : List Frame} {meth : Method} {c : Code} {hh : List (Nat × Nat × Nat × Nat)}
    (B : BodyLoose p l y S cc maxL ret e s m args below meth c s₁) (h : (Cond.codeWith y bytes maxL' ret' hh).before args s = true) : c.exceptionTable.toList = tableOf hh := by
  obtain ⟨m9, meth9, c9, hn9, h1, h2, -, -, h6, -⟩ := Cond.codeWith_spec h
  cases Option.some.inj (hn9.symm.trans B.named)
  cases Option.some.inj (h1.symm.trans B.method)
  cases Option.some.inj (h2.symm.trans (Stand.of_body B).code)
  rw [← h6, table_eq]
end Bodies
end VXA
/-! ===== END ===== -/
/-! ===== BEGIN a static call of a method with an exception table ===== -/
section VXS
variable {p : Program} {l : Launch} {e : Env} {R : Room} {s : State} {m : MethodId} {args : Array Value} {below : List Frame} {meth : Method} {c : Code} {T : State} {H : Heap} {locs : List Loc} {cells slots : Nat}
abbrev vx_CSW (R : Room) (s : State) (args : Array Value) (own : String) (index : Nat) (y : MethodName) (bytes : ByteArray) (maxL : Nat) (ret : Option FieldType) (hh : List (Nat × Nat × Nat × Nat)) (ws : List Cond) (rm : Room) (mc ms n : Nat) : Prop :=
  (rm.cells = mc ∧ rm.slots = ms ∧ rm.frames + 1 ≤ R.frames ∧ 8 + (maxL + 11) + rm.locals ≤ R.locals ∧ (∀ w ∈ ws, ∀ (a' : Array Value) (U : State), s.WarmedH U.vm → w.before a' U = true) ∧ Cond.codeWith y bytes maxL ret hh ∈ ws) ∧
  (Cond.codeWith y bytes maxL ret hh).before args s = true ∧ (Cond.initialized y.cls).before args s = true ∧ (y.cls ≠ "java/lang/invoke/MethodHandle" ∧ y.cls ≠ "java/lang/invoke/VarHandle") ∧
  (∀ sig, parseMethodDescriptor y.desc = some sig → n = sig.parameters.length) ∧ (Cond.methodLink own index y).before args s = true ∧ (Cond.static y).before args s = true
theorem vx_cwSW {own : String} {index maxL mc ms : Nat} {y : MethodName} {bytes : ByteArray} {ret : Option FieldType} {hh : List (Nat × Nat × Nat × Nat)} {Ts ws ws' : List Cond} {rm : Room} (n : Nat) (ht : ∀ w ∈ Ts, w.before args s = true) (hT : GoodIn Ts (va_wsS own index y ws)) (hw : ws = Cond.codeWith y bytes maxL ret hh :: ws') (hrc : rm.cells = mc) (hrs : rm.slots = ms)
    (hd : y.cls ≠ "java/lang/invoke/MethodHandle" ∧ y.cls ≠ "java/lang/invoke/VarHandle" ∧ (parseMethodDescriptor y.desc).map (fun d => d.parameters.length) = some n) (hR : rm.frames + 1 ≤ R.frames ∧ 8 + (maxL + 11) + rm.locals ≤ R.locals) :
    vx_CSW R s args own index y bytes maxL ret hh ws rm mc ms n := by
  have ok : ∀ w ∈ va_wsS own index y ws, w.before args s = true := fun w h => ht w (hT w h).1
  have hG : GoodIn Ts ws := fun w h => hT w (by unfold va_wsS; exact List.mem_append_right _ h)
  have hc : Cond.codeWith y bytes maxL ret hh ∈ ws := by rw [hw]; exact List.mem_cons_self
  refine ⟨⟨hrc, hrs, hR.1, hR.2, pay_in ht hG, hc⟩, ht _ (hG _ hc).1, ok _ (by simp [va_wsS]), ⟨hd.1, hd.2.1⟩, fun sig h => ?_, ok _ (by simp [va_wsS]), ok _ (by simp [va_wsS])⟩
  have h2 := hd.2.2
  rw [h] at h2
  exact (Option.some.inj h2).symm
theorem vx_callSW (X : Stand p l e R s m args below meth c T locs cells slots) (hexec : p.tables.exec = Jvm.exec) {own : String} {index : Nat} {y : MethodName} {bytes : ByteArray} {maxL : Nat} {ret : Option FieldType} {hh : List (Nat × Nat × Nat × Nat)}
    (hown : s.vm.findClass own = some m.cls) (hlink : (Cond.methodLink own index y).before args s = true) (hstat : (Cond.static y).before args s = true) (hinit : (Cond.initialized y.cls).before args s = true)
    (hcode : (Cond.codeWith y bytes maxL ret hh).before args s = true) (hy : y.cls ≠ "java/lang/invoke/MethodHandle" ∧ y.cls ≠ "java/lang/invoke/VarHandle")
    {W9 : Nat} {Pre : Pt → Array Value → Prop} {Post : Pt → Array Value → Option Value → Pt → Prop} (hK : Back l R p e below s args y 3 W9 Pre Post)
    {g : JFrame} (hg : g.method = m) (hsize : g.locals.size = c.maxLocals) {argsL rest : List Value} (hlen : ∀ sig, parseMethodDescriptor y.desc = some sig → argsL.length = sig.parameters.length)
    (hstack : g.stack = argsL.reverse ++ rest) (hW : 2 * g.monitorRoom + (rest.map fun v => v.category).sum ≤ W9) (hdg : decode c.code g.pc = .ok (.invokestatic index, 3))
    (hpre : ∀ vm₁, s.WarmedH vm₁ → Pre ⟨T.setVm vm₁, locs, cells, slots⟩ argsL.toArray) :
    ∃ (v : Option Value) (vm₁ : Vm) (B : Pt), s.WarmedH vm₁ ∧ Stand p l e R s m args below meth c B.U B.locs B.cells B.slots ∧ Post ⟨T.setVm vm₁, locs, cells, slots⟩ argsL.toArray v B ∧
      ∀ target, Steps p.tables e below (B.U.setTop { g with pc := g.pc + 3, stack := v.toList ++ rest }) target → Steps p.tables e below (T.setTop g) target := by
  obtain ⟨mk, methM, cM, hnamed, hmethM, -, -, -, -, -, -, hsigM⟩ := Cond.codeWith_spec hcode
  have hstatic : methM.isStatic = true := Cond.static_spec hnamed hmethM hstat
  obtain ⟨kP, hkP, -⟩ := className_of_methodNamed hnamed
  have hinitP : kP.init = .initialized := Cond.initialized_spec (findClass_of_methodNamed hnamed) hkP hinit
  obtain ⟨vm₁, X₁, hstep₁⟩ := X.invokestatic hexec hown hlink hnamed hmethM hstatic hkP hinitP hy (g := g) hg (argsL := argsL) (rest := rest) (hlen _ hsigM) hstack hdg
  obtain ⟨v, B, X', hpost, hsteps⟩ := hK m meth c ⟨T.setVm vm₁, locs, cells, slots⟩ { g with stack := rest } (.invokestatic index) mk argsL.toArray X₁ hg hsize hdg hW (X₁.named hnamed) (hpre vm₁ X₁.warmed)
  exact ⟨v, vm₁, B, X₁.warmed, X', hpost, fun target h => hstep₁ _ fun acts => by rw [doInvoke_state]; exact hsteps.trans h⟩
theorem vx_runSW {y : MethodName} {bytes cc : ByteArray} {maxL nL mc ms n index : Nat} {ret : Option FieldType} {hh : List (Nat × Nat × Nat × Nat)} {ws : List Cond} {rm : Room} {Pc : Array Value → State → Prop} {Qc : Array Value → State → Outcome → State → Prop} {free : Addr → Prop} {Ts : List Cond} {own : String} {As rest : List Value} {g : JFrame}
    (S : CallFix p m c cc nL s args Ts own) (hM : Met l y ws rm Pc Qc mc ms free) (cw : vx_CSW R s args own index y bytes maxL ret hh ws rm mc ms n) (hp : PreS s H Pc As)
    (hg : g.method = m) (hn : As.length = n) (hsize : g.locals.size = nL) (hstack : g.stack = As.reverse ++ rest) (hW : 2 * g.monitorRoom + (rest.map fun v => v.category).sum ≤ 8) (hdg : decode cc g.pc = .ok (.invokestatic index, 3)) (hf : cells + mc ≤ R.cells ∧ slots + ms ≤ R.slots) :
    va_Run p l e R s m args below meth c H locs cells slots mc ms g rest (Qc As.toArray) (free) := by
  obtain ⟨⟨hrc, hrs, hfr, hlo, hws, hcw⟩, hcode, hini, hy, hlen, hl, hstt⟩ := cw
  have hK : Back l R p e below s args y 3 8 (PreOf R mc ms Pc) (PostOf Qc mc ms free) := va_backW (hh := hh) (bytes := bytes) (maxL := maxL) (ret := ret) hM hp.1 hrc hrs hfr hlo hws hcw (fun a' U hW => word_at hW (Or.inl (by first | rfl | simp [Cond.onTables, Cond.keeps, Cond.steady])) hini)
  obtain ⟨hx, hb, hml, ho, -⟩ := S
  intro T hT X
  obtain ⟨v, vm₁, ⟨U', l2, c2, s2⟩, hW₁, X', ⟨g', mk, t, L, e1, e2, hq, h1, hL, h2, h3⟩, st⟩ := vx_callSW X hx (hh := hh) (bytes := bytes) (maxL := maxL) (ret := ret) ho hl hstt hini hcode hy hK hg (hsize.trans hml.symm) (argsL := As) (rest := rest) (fun sig h => hn.trans (hlen sig h)) hstack hW (by rw [hb]; exact hdg)
    (fun vm₁ hW₁ => ⟨hf.1, hf.2, hp.2 (T.setVm vm₁) hT hW₁⟩)
  dsimp only [Pt.U, Pt.locs, Pt.cells, Pt.slots] at X' e1 e2 h1 h2 h3 st
  subst h1; subst h2; subst h3
  exact ⟨v, (T.setVm vm₁).calling g' mk As.toArray, t, U', L, hT, X', hL, e1, e2, hq, st⟩
/-- not caught here, past rows that name other classes: it goes on to the caller -/
theorem vx_outP {p : Program} {l : Launch} {e : Env} {R : Room} {s : State} {m : MethodId} {args : Array Value} {below : List Frame} {meth : Method} {c : Code} {H : Heap} {locs : List Loc} {cells slots : Nat} {free : Addr → Prop} {ls : Array Slot} {rest : List Value} {Qc : Array Value → State → Outcome → State → Prop} {XC : String → State → State → Prop}
    {pc : Nat} {own E : String} {ce : Cell} {q : Addr} {mc ms : Nat} (hown : s.vm.findClass own = some m.cls) (hlocks : meth.locks = false)
    (hpass : ∀ z ∈ c.exceptionTable.toList, covers z pc = false ∨ (z.catchType ≠ 0 ∧ ∃ nm : String, (Cond.classLink own z.catchType nm).before args s = true ∧ va_Nc E nm s)) (hcell : H[q]? = some ce) (hv : ce.vm = .none) (hcl : s.vm.findClass E = some ce.cls)
    (hx : ∀ t : State, t.heap = H → s.vm.Alike t.vm → XC E s t) (hf : ∀ z ∈ locs, free z.base) (hc : cells ≤ mc) (hs : slots ≤ ms) :
    vx_W p l e R s m args below meth c H locs cells slots (vx_MQ below Qc XC args s mc ms free) (F0 m pc ls rest) q := by
  intro T hT X
  have hpl : e.platform.magicAccessors = ({} : Platform).magicAccessors := by rw [X.admits.platform]
  obtain ⟨vm', hW', X', st⟩ := X.outThrough hlocks q (g := F0 m pc ls rest) rfl rfl rfl (cell := ce) (by rw [hT]; exact hcell) (by rw [hv]; rfl)
    (by obtain ⟨k9, h9, -⟩ := Vm.findClass_spec hcl; exact ⟨k9, h9⟩) (fun z hz => by
      rcases hpass z hz with h | ⟨hz0, nm, hl1, hn1⟩
      · exact Or.inl h
      · obtain ⟨c6, hc6, hcl6⟩ := Cond.classLink_spec hown hl1 e.platform hpl
        obtain ⟨a8, b8, h1, h2, h3⟩ := hn1
        cases Option.some.inj (h1.symm.trans hcl)
        cases Option.some.inj (h2.symm.trans hc6)
        exact Or.inr ⟨hz0, _, hcl6, h3⟩)
  obtain ⟨g₀, hfr⟩ := X'.frames_eq
  have hcell9 : ((T.setVm vm').setFrames (.throwing q :: below)).heap[q]? = some ce := by
    show T.heap[q]? = some ce
    rw [hT]; exact hcell
  have hend : Ended ((T.setVm vm').setFrames (.throwing q :: below)) below (.threw q) := State.frames_setFrames _ (State.cur_lt_of_frames hfr)
  refine ⟨(T.setVm vm').setFrames (.throwing q :: below), ?_, .threw q, X'.here.running, hend, Or.inr ⟨q, rfl, E, ce, locs, hx _ hT (X'.ends _).1.alike, hcell9, hv, hcl, (X'.ends _).1, (X'.ends _).2.mono hc hs, hf⟩⟩
  rw [X.pushThrowing_eq]
  exact st
/-- a thing of a world lies in the heap -/
theorem vx_lt {D : va_G} {cl : List vw_C} {ws : va_W} {H1 : Heap} (h : va_P D cl ws H1) {k : Nat} {q : Nat × va_E} (hk : ws[k]? = some q) : q.1 < H1.size := (h k q hk).lt
end VXS
/-! ===== END ===== -/
/-! ===== BEGIN methods with a table of their own: called by a name, returning or throwing ===== -/
section VXH
/-! vx_backW, vx_callVX, vx_callSX, vx_callVW, vx_runVW, vx_runVX, vx_runSX, vx_ofWH follow the same proofs as their sisters above (Free/Laws.lean, Shelf42/LK1.lean); vx_outP calls Shelf42/NT130.lean (outThrough). -/
section
variable {l : Launch} {R : Room} {p : Program} {e : Env} {below : List Frame} {s : State} {sargs : Array Value} {y : MethodName} {len W9 : Nat}
theorem vx_backW {ws : List Cond} {rm : Room} {Pc : Array Value → State → Prop} {Qc : Array Value → State → Outcome → State → Prop} {XC : String → State → State → Prop} {mc ms : Nat} {free : Addr → Prop} {bytes : ByteArray} {maxL : Nat} {ret : Option FieldType} {hh : List (Nat × Nat × Nat × Nat)}
    (hM : vx_Met l y ws rm Pc Qc XC mc ms free) (hblind : FrameBlind Pc) (hrc : rm.cells = mc) (hrs : rm.slots = ms)
    (hframes : rm.frames + 1 ≤ R.frames) (hlocals : W9 + (maxL + 11) + rm.locals ≤ R.locals)
    (hws : ∀ w ∈ ws, ∀ a' U, s.WarmedH U.vm → w.before a' U = true) (hcode : Cond.codeWith y bytes maxL ret hh ∈ ws) (hinit : ∀ a' U, s.WarmedH U.vm → (Cond.initialized y.cls).before a' U = true) :
    vx_Back l R p e below s sargs y len W9 (PreOf R mc ms Pc) (PostOf Qc mc ms free) (vx_Post XC mc ms free) := by
  intro m meth c A g ig mk a X hg hsize hdg hW hn hp
  have h1 : (headSpec ws rm).pre.before a A.U = true := atoms_intro fun w hw => hws w hw _ _ X.warmed
  have h2 : (Cond.codeWith y bytes maxL ret hh).before a A.U = true := hws _ hcode _ _ X.warmed
  have h3 : (Cond.initialized y.cls).before a A.U = true := hinit _ _ X.warmed
  have h4 : A.cells + (headSpec ws rm).room.cells ≤ R.cells := by rw [show (headSpec ws rm).room.cells = mc from hrc]; exact hp.1
  have h5 : A.slots + (headSpec ws rm).room.slots ≤ R.slots := by rw [show (headSpec ws rm).room.slots = ms from hrs]; exact hp.2.1
  have hPc : Pc a (A.U.calling g mk a) := hblind _ _ _ _ hp.2.2
  obtain ⟨U, Ls, c0, s0⟩ := A
  dsimp only [Pt.U, Pt.locs, Pt.cells, Pt.slots] at h1 h2 h3 h4 h5 X hn hPc ⊢
  obtain ⟨m9, methY, cY, hn9, hmY, hcY, -, hlY, -⟩ := Cond.codeWith_spec h2
  cases Option.some.inj (hn9.symm.trans hn)
  obtain ⟨kY, hkY, -⟩ := className_of_methodNamed hn
  have hinitY : kY.init = .initialized := Cond.initialized_spec (findClass_of_methodNamed hn) hkY h3
  have h : At U g.method c below := by rw [hg]; exact X.here
  have hlocals9 : W9 + (maxL + 11) + (headSpec ws rm).room.locals ≤ R.locals := hlocals
  have happ : (headSpec ws rm).appliesLoose y e.platform (U.calling g mk a) = true :=
    Spec.appliesLoose_calling (g := g) h hdg hn hkY hinitY
      (X.room_calling (g := g) (R' := (headSpec ws rm).room) hsize hmY hcY hframes (by rw [hlY]; omega) h4 h5) h1
  obtain ⟨mid, hmid⟩ := h.above
  have hfr : (U.setTop g).frames = (.java g :: mid) ++ below := by rw [State.frames_setTop' g h.top, hmid]; rfl
  obtain ⟨o, s₂, hsteps, -, hend, hq⟩ := Steps.callFree hM p X.admits X.cas X.clock (acts := []) hfr happ hPc trivial
  have hq' : vx_Q Qc XC mc ms free a (U.calling g mk a) o s₂ := hq
  rw [State.frames_setTop' g h.top] at hend
  obtain ⟨g₀, hg0⟩ := Option.isSome_iff_exists.mp h.top
  obtain ⟨r, hr⟩ := State.topJava?_eq_some.mp hg0
  have hr' : (({ U with heap := s₂.heap, slotsUsed := s₂.slotsUsed } : State).setVm s₂.vm).frames = .java g₀ :: r := hr
  rcases hq' with ⟨hqc, L, hfe, hL⟩ | ⟨q, rfl, E, ce, L, hx, hce, hcv, hcl, hW₂, hsm, hL⟩
  · obtain ⟨⟨v, rfl⟩, hW₂, e2, q2, q3, q4, q5, q6⟩ := id hfe
    have e3 : s₂ = ({ (U.calling g mk a).setFrames s₂.frames with heap := s₂.heap, slotsUsed := s₂.slotsUsed } : State).setVm s₂.vm := by
      have : s₂ = ({ s₂ with vm := (U.calling g mk a).vm } : State).setVm s₂.vm := rfl
      rw [e2] at this
      exact this
    obtain ⟨c₂, i₂, len₂, hc₂, hd₂, hf₂⟩ := hend
    have hW' : U.WarmedH s₂.vm := hW₂
    have hcc : c₂ = c := by
      have h1 : s₂.code? g.method = U.code? g.method := by
        rw [State.code?_eq, State.code?_eq, hW'.alike.method?]
      exact Option.some.inj (hc₂.symm.trans (h1.trans h.code))
    subst hcc
    have hlen : len₂ = len := by rw [hdg] at hd₂; cases hd₂; rfl
    subst hlen
    have hs₂ : s₂ = (({ U with heap := s₂.heap, slotsUsed := s₂.slotsUsed } : State).setVm s₂.vm).setTop { g with pc := g.pc + len₂, stack := v.toList ++ g.stack } := by
      refine e3.trans ?_
      rw [hf₂, State.calling_eq h.top, State.setFrames_setFrames, State.setTop_of_frames _ hr', hr]
      rfl
    have hsame : U.sameButNew ({ U with heap := s₂.heap, slotsUsed := s₂.slotsUsed } : State) L mc ms := by
      refine ⟨?_, q2, q3, q4, q5, q6⟩
      obtain ⟨t, ht, -⟩ := State.frames_cons hr
      show ({ U with heap := s₂.heap, slotsUsed := s₂.slotsUsed } : State) = { U.setFrames U.frames with heap := s₂.heap, slotsUsed := s₂.slotsUsed }
      rw [State.setFrames_self ht]
    subst hg
    refine Or.inl ⟨v, ⟨(({ U with heap := s₂.heap, slotsUsed := s₂.slotsUsed } : State).setVm s₂.vm), Ls ++ L, c0 + mc, s0 + ms⟩,
      ⟨X.admits, X.cas, X.clock, X.frames, X.room, X.hears, X.method, X.code, (X.here.setHeapUsed s₂.heap s₂.slotsUsed).setVm hW'.alike, X.tail, State.WarmedH.trans X.warmed hW', X.limits, X.bytes, X.same.trans (hsame.setVm s.vm)⟩,
      ⟨g, mk, s₂, L, rfl, rfl, hqc, rfl, hL, rfl, rfl⟩, ?_⟩
    show Steps p.tables e below _ ((({ U with heap := s₂.heap, slotsUsed := s₂.slotsUsed } : State).setVm s₂.vm).setTop { g with pc := g.pc + len₂, stack := v.toList ++ g.stack })
    rw [← hs₂]
    exact hsteps
  · obtain ⟨e2, q2, q3, q4, q5, q6⟩ := id hsm
    have e3 : s₂ = ({ (U.calling g mk a).setFrames s₂.frames with heap := s₂.heap, slotsUsed := s₂.slotsUsed } : State).setVm s₂.vm := by
      have : s₂ = ({ s₂ with vm := (U.calling g mk a).vm } : State).setVm s₂.vm := rfl
      rw [e2] at this
      exact this
    have hf₂ : s₂.frames = .throwing q :: .java g :: U.frames.tail := hend
    have hW' : U.WarmedH s₂.vm := hW₂
    have hs₂ : s₂ = ((({ U with heap := s₂.heap, slotsUsed := s₂.slotsUsed } : State).setVm s₂.vm).setTop g).pushFrame (.throwing q) := by
      refine e3.trans ?_
      rw [hf₂, State.calling_eq h.top, State.setFrames_setFrames, State.pushFrame, State.frames_setTop _ hr', State.setTop_of_frames _ hr', State.setFrames_setFrames, hr]
      rfl
    have hsame : U.sameButNew ({ U with heap := s₂.heap, slotsUsed := s₂.slotsUsed } : State) L mc ms := by
      refine ⟨?_, q2, q3, q4, q5, q6⟩
      obtain ⟨t, ht, -⟩ := State.frames_cons hr
      show ({ U with heap := s₂.heap, slotsUsed := s₂.slotsUsed } : State) = { U.setFrames U.frames with heap := s₂.heap, slotsUsed := s₂.slotsUsed }
      rw [State.setFrames_self ht]
    subst hg
    refine Or.inr ⟨q, ⟨(({ U with heap := s₂.heap, slotsUsed := s₂.slotsUsed } : State).setVm s₂.vm), Ls ++ L, c0 + mc, s0 + ms⟩,
      ⟨X.admits, X.cas, X.clock, X.frames, X.room, X.hears, X.method, X.code, (X.here.setHeapUsed s₂.heap s₂.slotsUsed).setVm hW'.alike, X.tail, State.WarmedH.trans X.warmed hW', X.limits, X.bytes, X.same.trans (hsame.setVm s.vm)⟩,
      ⟨g, mk, s₂, L, E, ce, rfl, rfl, hx, hce, hcv, hcl, rfl, hL, rfl, rfl⟩, ?_⟩
    show Steps p.tables e below _ (((({ U with heap := s₂.heap, slotsUsed := s₂.slotsUsed } : State).setVm s₂.vm).setTop g).pushFrame (.throwing q))
    rw [← hs₂]
    exact hsteps
end
variable {p : Program} {l : Launch} {e : Env} {R : Room} {s : State} {m : MethodId} {args : Array Value} {below : List Frame} {meth : Method} {c : Code} {T : State} {H : Heap} {locs : List Loc} {cells slots : Nat}
theorem vx_callVX (X : Stand p l e R s m args below meth c T locs cells slots) (hexec : p.tables.exec = Jvm.exec) {own C : String} {index : Nat} {y : MethodName} {bytes : ByteArray} {maxL : Nat} {ret : Option FieldType} {hh : List (Nat × Nat × Nat × Nat)}
    (hown : s.vm.findClass own = some m.cls) (hlink : (Cond.methodLink own index y).before args s = true) (hinst : (Cond.instanceMethod y).before args s = true) (hsel : (Cond.selects C y y).before args s = true)
    (hcode : (Cond.codeWith y bytes maxL ret hh).before args s = true) (hy : y.cls ≠ "java/lang/invoke/MethodHandle" ∧ y.cls ≠ "java/lang/invoke/VarHandle")
    {W9 : Nat} {Pre : Pt → Array Value → Prop} {Post : Pt → Array Value → Option Value → Pt → Prop} {PostX : Pt → Array Value → Addr → Pt → Prop} (hK : vx_Back l R p e below s args y 3 W9 Pre Post PostX)
    {b : Addr} {cellB : Cell} (hcell : T.heap[b]? = some cellB) (hobj : cellB.vm.isStatics = false) (hcls : s.vm.findClass C = some cellB.cls)
    {g : JFrame} (hg : g.method = m) (hsize : g.locals.size = c.maxLocals) {argsL rest : List Value} (hlen : ∀ sig, parseMethodDescriptor y.desc = some sig → argsL.length = sig.parameters.length)
    (hstack : g.stack = argsL.reverse ++ .ref b :: rest) (hW : 2 * g.monitorRoom + (rest.map fun v => v.category).sum ≤ W9) (hdg : decode c.code g.pc = .ok (.invokevirtual index, 3))
    (hpre : ∀ vm₁, s.WarmedH vm₁ → Pre ⟨T.setVm vm₁, locs, cells, slots⟩ (Value.ref b :: argsL).toArray) :
    (∃ (v : Option Value) (vm₁ : Vm) (B : Pt), s.WarmedH vm₁ ∧ Stand p l e R s m args below meth c B.U B.locs B.cells B.slots ∧ Post ⟨T.setVm vm₁, locs, cells, slots⟩ (Value.ref b :: argsL).toArray v B ∧
      ∀ target, Steps p.tables e below (B.U.setTop { g with pc := g.pc + 3, stack := v.toList ++ rest }) target → Steps p.tables e below (T.setTop g) target) ∨
    (∃ (q : Addr) (vm₁ : Vm) (B : Pt), s.WarmedH vm₁ ∧ Stand p l e R s m args below meth c B.U B.locs B.cells B.slots ∧ PostX ⟨T.setVm vm₁, locs, cells, slots⟩ (Value.ref b :: argsL).toArray q B ∧
      Steps p.tables e below (T.setTop g) ((B.U.setTop { g with stack := rest }).pushFrame (.throwing q))) := by
  obtain ⟨mk, methM, hnamed, hmethM, hstM, habM⟩ := Cond.instanceMethod_spec hinst
  obtain ⟨m8, methM', cM, hn8, hmethM', -, -, -, -, -, -, hsigM⟩ := Cond.codeWith_spec hcode
  cases Option.some.inj (hn8.symm.trans hnamed)
  cases hmethM.symm.trans hmethM'
  obtain ⟨c2, r2, m2, q1, q2, q3, q4, kP, hkP, hkPi⟩ := Cond.selects_spec hsel
  cases hcls.symm.trans q1
  cases (State.methodFound?_of_named hnamed hy).symm.trans q2
  cases hnamed.symm.trans q3
  have hselP : selectMethod e.platform s.vm cellB.cls mk = .method mk := by rw [Launch.admits_selectMethod X.admits]; exact q4
  obtain ⟨vm₁, X₁, hstep₁⟩ := X.invokevirtual hexec hown hlink hnamed hmethM hstM hkP hkPi hy (a := b) (cell := cellB) hcell
    (fun z h => by rw [h] at hobj; cases hobj) hselP hmethM habM hkP hkPi (g := g) hg (argsL := argsL) (rest := rest) (hlen _ hsigM) hstack hdg
  rcases hK m meth c ⟨T.setVm vm₁, locs, cells, slots⟩ { g with stack := rest } (.invokevirtual index) mk (Value.ref b :: argsL).toArray X₁ hg hsize hdg hW (X₁.named hnamed) (hpre vm₁ X₁.warmed) with ⟨v, B, X', hpost, hsteps⟩ | ⟨q, B, X', hpost, hsteps⟩
  · exact Or.inl ⟨v, vm₁, B, X₁.warmed, X', hpost, fun target h => hstep₁ _ fun acts => by rw [doInvoke_state]; exact hsteps.trans h⟩
  · exact Or.inr ⟨q, vm₁, B, X₁.warmed, X', hpost, hstep₁ _ fun acts => by rw [doInvoke_state]; exact hsteps⟩
theorem vx_callSX (X : Stand p l e R s m args below meth c T locs cells slots) (hexec : p.tables.exec = Jvm.exec) {own : String} {index : Nat} {y : MethodName} {bytes : ByteArray} {maxL : Nat} {ret : Option FieldType} {hh : List (Nat × Nat × Nat × Nat)}
    (hown : s.vm.findClass own = some m.cls) (hlink : (Cond.methodLink own index y).before args s = true) (hstat : (Cond.static y).before args s = true) (hinit : (Cond.initialized y.cls).before args s = true)
    (hcode : (Cond.codeWith y bytes maxL ret hh).before args s = true) (hy : y.cls ≠ "java/lang/invoke/MethodHandle" ∧ y.cls ≠ "java/lang/invoke/VarHandle")
    {W9 : Nat} {Pre : Pt → Array Value → Prop} {Post : Pt → Array Value → Option Value → Pt → Prop} {PostX : Pt → Array Value → Addr → Pt → Prop} (hK : vx_Back l R p e below s args y 3 W9 Pre Post PostX)
    {g : JFrame} (hg : g.method = m) (hsize : g.locals.size = c.maxLocals) {argsL rest : List Value} (hlen : ∀ sig, parseMethodDescriptor y.desc = some sig → argsL.length = sig.parameters.length)
    (hstack : g.stack = argsL.reverse ++ rest) (hW : 2 * g.monitorRoom + (rest.map fun v => v.category).sum ≤ W9) (hdg : decode c.code g.pc = .ok (.invokestatic index, 3))
    (hpre : ∀ vm₁, s.WarmedH vm₁ → Pre ⟨T.setVm vm₁, locs, cells, slots⟩ argsL.toArray) :
    (∃ (v : Option Value) (vm₁ : Vm) (B : Pt), s.WarmedH vm₁ ∧ Stand p l e R s m args below meth c B.U B.locs B.cells B.slots ∧ Post ⟨T.setVm vm₁, locs, cells, slots⟩ argsL.toArray v B ∧
      ∀ target, Steps p.tables e below (B.U.setTop { g with pc := g.pc + 3, stack := v.toList ++ rest }) target → Steps p.tables e below (T.setTop g) target) ∨
    (∃ (q : Addr) (vm₁ : Vm) (B : Pt), s.WarmedH vm₁ ∧ Stand p l e R s m args below meth c B.U B.locs B.cells B.slots ∧ PostX ⟨T.setVm vm₁, locs, cells, slots⟩ argsL.toArray q B ∧
      Steps p.tables e below (T.setTop g) ((B.U.setTop { g with stack := rest }).pushFrame (.throwing q))) := by
  obtain ⟨mk, methM, cM, hnamed, hmethM, -, -, -, -, -, -, hsigM⟩ := Cond.codeWith_spec hcode
  have hstatic : methM.isStatic = true := Cond.static_spec hnamed hmethM hstat
  obtain ⟨kP, hkP, -⟩ := className_of_methodNamed hnamed
  have hinitP : kP.init = .initialized := Cond.initialized_spec (findClass_of_methodNamed hnamed) hkP hinit
  obtain ⟨vm₁, X₁, hstep₁⟩ := X.invokestatic hexec hown hlink hnamed hmethM hstatic hkP hinitP hy (g := g) hg (argsL := argsL) (rest := rest) (hlen _ hsigM) hstack hdg
  rcases hK m meth c ⟨T.setVm vm₁, locs, cells, slots⟩ { g with stack := rest } (.invokestatic index) mk argsL.toArray X₁ hg hsize hdg hW (X₁.named hnamed) (hpre vm₁ X₁.warmed) with ⟨v, B, X', hpost, hsteps⟩ | ⟨q, B, X', hpost, hsteps⟩
  · exact Or.inl ⟨v, vm₁, B, X₁.warmed, X', hpost, fun target h => hstep₁ _ fun acts => by rw [doInvoke_state]; exact hsteps.trans h⟩
  · exact Or.inr ⟨q, vm₁, B, X₁.warmed, X', hpost, hstep₁ _ fun acts => by rw [doInvoke_state]; exact hsteps⟩
theorem vx_callVW (X : Stand p l e R s m args below meth c T locs cells slots) (hexec : p.tables.exec = Jvm.exec) {own C : String} {index : Nat} {y : MethodName} {bytes : ByteArray} {maxL : Nat} {ret : Option FieldType} {hh : List (Nat × Nat × Nat × Nat)}
    (hown : s.vm.findClass own = some m.cls) (hlink : (Cond.methodLink own index y).before args s = true) (hinst : (Cond.instanceMethod y).before args s = true) (hsel : (Cond.selects C y y).before args s = true)
    (hcode : (Cond.codeWith y bytes maxL ret hh).before args s = true) (hy : y.cls ≠ "java/lang/invoke/MethodHandle" ∧ y.cls ≠ "java/lang/invoke/VarHandle")
    {W9 : Nat} {Pre : Pt → Array Value → Prop} {Post : Pt → Array Value → Option Value → Pt → Prop} (hK : Back l R p e below s args y 3 W9 Pre Post)
    {b : Addr} {cellB : Cell} (hcell : T.heap[b]? = some cellB) (hobj : cellB.vm.isStatics = false) (hcls : s.vm.findClass C = some cellB.cls)
    {g : JFrame} (hg : g.method = m) (hsize : g.locals.size = c.maxLocals) {argsL rest : List Value} (hlen : ∀ sig, parseMethodDescriptor y.desc = some sig → argsL.length = sig.parameters.length)
    (hstack : g.stack = argsL.reverse ++ .ref b :: rest) (hW : 2 * g.monitorRoom + (rest.map fun v => v.category).sum ≤ W9) (hdg : decode c.code g.pc = .ok (.invokevirtual index, 3))
    (hpre : ∀ vm₁, s.WarmedH vm₁ → Pre ⟨T.setVm vm₁, locs, cells, slots⟩ (Value.ref b :: argsL).toArray) :
    ∃ (v : Option Value) (vm₁ : Vm) (B : Pt), s.WarmedH vm₁ ∧ Stand p l e R s m args below meth c B.U B.locs B.cells B.slots ∧ Post ⟨T.setVm vm₁, locs, cells, slots⟩ (Value.ref b :: argsL).toArray v B ∧
      ∀ target, Steps p.tables e below (B.U.setTop { g with pc := g.pc + 3, stack := v.toList ++ rest }) target → Steps p.tables e below (T.setTop g) target := by
  obtain ⟨mk, methM, hnamed, hmethM, hstM, habM⟩ := Cond.instanceMethod_spec hinst
  obtain ⟨m8, methM', cM, hn8, hmethM', -, -, -, -, -, -, hsigM⟩ := Cond.codeWith_spec hcode
  cases Option.some.inj (hn8.symm.trans hnamed)
  cases hmethM.symm.trans hmethM'
  obtain ⟨c2, r2, m2, q1, q2, q3, q4, kP, hkP, hkPi⟩ := Cond.selects_spec hsel
  cases hcls.symm.trans q1
  cases (State.methodFound?_of_named hnamed hy).symm.trans q2
  cases hnamed.symm.trans q3
  have hselP : selectMethod e.platform s.vm cellB.cls mk = .method mk := by rw [Launch.admits_selectMethod X.admits]; exact q4
  obtain ⟨vm₁, X₁, hstep₁⟩ := X.invokevirtual hexec hown hlink hnamed hmethM hstM hkP hkPi hy (a := b) (cell := cellB) hcell
    (fun z h => by rw [h] at hobj; cases hobj) hselP hmethM habM hkP hkPi (g := g) hg (argsL := argsL) (rest := rest) (hlen _ hsigM) hstack hdg
  obtain ⟨v, B, X', hpost, hsteps⟩ := hK m meth c ⟨T.setVm vm₁, locs, cells, slots⟩ { g with stack := rest } (.invokevirtual index) mk (Value.ref b :: argsL).toArray X₁ hg hsize hdg hW (X₁.named hnamed) (hpre vm₁ X₁.warmed)
  exact ⟨v, vm₁, B, X₁.warmed, X', hpost, fun target h => hstep₁ _ fun acts => by rw [doInvoke_state]; exact hsteps.trans h⟩
abbrev vx_CVW (R : Room) (s : State) (args : Array Value) (own C : String) (index : Nat) (y : MethodName) (bytes : ByteArray) (maxL : Nat) (ret : Option FieldType) (hh : List (Nat × Nat × Nat × Nat)) (ws : List Cond) (rm : Room) (mc ms n : Nat) : Prop :=
  (rm.cells = mc ∧ rm.slots = ms ∧ rm.frames + 1 ≤ R.frames ∧ 8 + (maxL + 11) + rm.locals ≤ R.locals ∧ (∀ w ∈ ws, ∀ (a' : Array Value) (U : State), s.WarmedH U.vm → w.before a' U = true) ∧ Cond.codeWith y bytes maxL ret hh ∈ ws) ∧
  (Cond.codeWith y bytes maxL ret hh).before args s = true ∧ (Cond.initialized y.cls).before args s = true ∧ (y.cls ≠ "java/lang/invoke/MethodHandle" ∧ y.cls ≠ "java/lang/invoke/VarHandle") ∧
  (∀ sig, parseMethodDescriptor y.desc = some sig → n = sig.parameters.length) ∧ (Cond.methodLink own index y).before args s = true ∧ (Cond.instanceMethod y).before args s = true ∧ (Cond.selects C y y).before args s = true
theorem vx_cwVW {own C : String} {index maxL mc ms : Nat} {y : MethodName} {bytes : ByteArray} {ret : Option FieldType} {hh : List (Nat × Nat × Nat × Nat)} {Ts ws ws' : List Cond} {rm : Room} (n : Nat) (ht : ∀ w ∈ Ts, w.before args s = true) (hT : GoodIn Ts (wsV own index C y ws)) (hw : ws = Cond.codeWith y bytes maxL ret hh :: ws') (hrc : rm.cells = mc) (hrs : rm.slots = ms)
    (hd : y.cls = C ∧ y.cls ≠ "java/lang/invoke/MethodHandle" ∧ y.cls ≠ "java/lang/invoke/VarHandle" ∧ (parseMethodDescriptor y.desc).map (fun d => d.parameters.length) = some n) (hR : rm.frames + 1 ≤ R.frames ∧ 8 + (maxL + 11) + rm.locals ≤ R.locals) :
    vx_CVW R s args own C index y bytes maxL ret hh ws rm mc ms n := by
  obtain ⟨hC, hd⟩ := hd
  subst hC
  have ok : ∀ w ∈ wsV own index y.cls y ws, w.before args s = true := fun w h => ht w (hT w h).1
  have hG : GoodIn Ts ws := fun w h => hT w (by unfold wsV; exact List.mem_append_right _ h)
  have hc : Cond.codeWith y bytes maxL ret hh ∈ ws := by rw [hw]; exact List.mem_cons_self
  refine ⟨⟨hrc, hrs, hR.1, hR.2, pay_in ht hG, hc⟩, ht _ (hG _ hc).1, ok _ (by simp [wsV]), ⟨hd.1, hd.2.1⟩, fun sig h => ?_, ok _ (by simp [wsV]), ok _ (by simp [wsV]), ok _ (by simp [wsV])⟩
  have h2 := hd.2.2
  rw [h] at h2
  exact (Option.some.inj h2).symm
theorem vx_runVW {y : MethodName} {bytes cc : ByteArray} {maxL nL mc ms n index : Nat} {ret : Option FieldType} {hh : List (Nat × Nat × Nat × Nat)} {ws : List Cond} {rm : Room} {Pc : Array Value → State → Prop} {Qc : Array Value → State → Outcome → State → Prop} {free : Addr → Prop} {Ts : List Cond} {own C : String} {b : Addr} {As rest : List Value} {g : JFrame}
    (S : CallFix p m c cc nL s args Ts own) (hM : Met l y ws rm Pc Qc mc ms free) (cw : vx_CVW R s args own C index y bytes maxL ret hh ws rm mc ms n) (hp : PreV s H C b Pc As)
    (hg : g.method = m) (hn : As.length = n) (hsize : g.locals.size = nL) (hstack : g.stack = As.reverse ++ .ref b :: rest) (hW : 2 * g.monitorRoom + (rest.map fun v => v.category).sum ≤ 8) (hdg : decode cc g.pc = .ok (.invokevirtual index, 3)) (hf : cells + mc ≤ R.cells ∧ slots + ms ≤ R.slots) :
    va_Run p l e R s m args below meth c H locs cells slots mc ms g rest (Qc (Value.ref b :: As).toArray) free := by
  obtain ⟨⟨hrc, hrs, hfr, hlo, hws, hcw⟩, hcode, hini, hy, hlen, hl, hin, hse⟩ := cw
  have hK : Back l R p e below s args y 3 8 (PreOf R mc ms Pc) (PostOf Qc mc ms free) := va_backW (hh := hh) (bytes := bytes) (maxL := maxL) (ret := ret) hM hp.1 hrc hrs hfr hlo hws hcw (fun a' U hW => word_at hW (Or.inl (by first | rfl | simp [Cond.onTables, Cond.keeps, Cond.steady])) hini)
  obtain ⟨hx, hb, hml, ho, -⟩ := S
  obtain ⟨-, ⟨cellB, hcB, hoB, hclB⟩, hPc⟩ := hp
  intro T hT X
  obtain ⟨v, vm₁, ⟨U', l2, c2, s2⟩, hW₁, X', ⟨g', mk, t, L, e1, e2, hq, h1, hL, h2, h3⟩, st⟩ := vx_callVW X hx (C := C) (hh := hh) (bytes := bytes) (maxL := maxL) (ret := ret) ho hl hin hse hcode hy hK (by rw [hT]; exact hcB) hoB hclB hg (hsize.trans hml.symm) (argsL := As) (rest := rest) (fun sig h => hn.trans (hlen sig h)) hstack hW (by rw [hb]; exact hdg)
    (fun vm₁ hW₁ => ⟨hf.1, hf.2, hPc (T.setVm vm₁) hT hW₁⟩)
  dsimp only [Pt.U, Pt.locs, Pt.cells, Pt.slots] at X' e1 e2 h1 h2 h3 st
  subst h1; subst h2; subst h3
  exact ⟨v, (T.setVm vm₁).calling g' mk (Value.ref b :: As).toArray, t, U', L, hT, X', hL, e1, e2, hq, st⟩
section
variable {y : MethodName} {bytes cc : ByteArray} {maxL nL mc ms n index : Nat} {ret : Option FieldType} {ws : List Cond} {rm : Room} {Pc : Array Value → State → Prop} {Qc : Array Value → State → Outcome → State → Prop} {XC : String → State → State → Prop} {free : Addr → Prop} {Ts : List Cond} {own C : String} {b : Addr} {As rest : List Value} {g : JFrame}
theorem vx_runVX {hh : List (Nat × Nat × Nat × Nat)} (S : CallFix p m c cc nL s args Ts own) (hM : vx_Met l y ws rm Pc Qc XC mc ms free) (cw : vx_CVW R s args own C index y bytes maxL ret hh ws rm mc ms n) (hp : PreV s H C b Pc As)
    (hg : g.method = m) (hn : As.length = n) (hsize : g.locals.size = nL) (hstack : g.stack = As.reverse ++ .ref b :: rest) (hW : 2 * g.monitorRoom + (rest.map fun v => v.category).sum ≤ 8) (hdg : decode cc g.pc = .ok (.invokevirtual index, 3)) (hf : cells + mc ≤ R.cells ∧ slots + ms ≤ R.slots) :
    vx_Run p l e R s m args below meth c H locs cells slots mc ms g rest (Qc (Value.ref b :: As).toArray) XC free := by
  obtain ⟨⟨hrc, hrs, hfr, hlo, hws, hcw⟩, hcode, hini, hy, hlen, hl, hin, hse⟩ := cw
  have hK : vx_Back l R p e below s args y 3 8 (PreOf R mc ms Pc) (PostOf Qc mc ms free) (vx_Post XC mc ms free) := vx_backW (hh := hh) (bytes := bytes) (maxL := maxL) (ret := ret) hM hp.1 hrc hrs hfr hlo hws hcw (fun a' U hW => word_at hW (Or.inl (by first | rfl | simp [Cond.onTables, Cond.keeps, Cond.steady])) hini)
  obtain ⟨hx, hb, hml, ho, -⟩ := S
  obtain ⟨-, ⟨cellB, hcB, hoB, hclB⟩, hPc⟩ := hp
  intro T hT X
  rcases vx_callVX X hx (C := C) (hh := hh) (bytes := bytes) (maxL := maxL) (ret := ret) ho hl hin hse hcode hy hK (by rw [hT]; exact hcB) hoB hclB hg (hsize.trans hml.symm) (argsL := As) (rest := rest) (fun sig h => hn.trans (hlen sig h)) hstack hW (by rw [hb]; exact hdg)
    (fun vm₁ hW₁ => ⟨hf.1, hf.2, hPc (T.setVm vm₁) hT hW₁⟩) with ⟨v, vm₁, ⟨U', l2, c2, s2⟩, hW₁, X', ⟨g', mk, t, L, e1, e2, hq, h1, hL, h2, h3⟩, st⟩ | ⟨q, vm₁, ⟨U', l2, c2, s2⟩, hW₁, X', ⟨g', mk, t, L, E, ce, e1, e2, hq, hce, hcv, hcl, h1, hL, h2, h3⟩, st⟩
  · dsimp only [Pt.U, Pt.locs, Pt.cells, Pt.slots] at X' e1 e2 h1 h2 h3 st
    subst h1; subst h2; subst h3
    exact Or.inl ⟨v, (T.setVm vm₁).calling g' mk (Value.ref b :: As).toArray, t, U', L, hT, X', hL, e1, e2, hq, st⟩
  · dsimp only [Pt.U, Pt.locs, Pt.cells, Pt.slots] at X' e1 e2 h1 h2 h3 st hcl
    subst h1; subst h2; subst h3
    exact Or.inr ⟨q, (T.setVm vm₁).calling g' mk (Value.ref b :: As).toArray, t, U', L, E, ce, hT, X', hL, e1, e2, hq, hce, hcv, vx_cls hW₁ hcl, st⟩
theorem vx_runSX {hh : List (Nat × Nat × Nat × Nat)} (S : CallFix p m c cc nL s args Ts own) (hM : vx_Met l y ws rm Pc Qc XC mc ms free) (cw : vx_CSW R s args own index y bytes maxL ret hh ws rm mc ms n) (hp : PreS s H Pc As)
    (hg : g.method = m) (hn : As.length = n) (hsize : g.locals.size = nL) (hstack : g.stack = As.reverse ++ rest) (hW : 2 * g.monitorRoom + (rest.map fun v => v.category).sum ≤ 8) (hdg : decode cc g.pc = .ok (.invokestatic index, 3)) (hf : cells + mc ≤ R.cells ∧ slots + ms ≤ R.slots) :
    vx_Run p l e R s m args below meth c H locs cells slots mc ms g rest (Qc As.toArray) XC free := by
  obtain ⟨⟨hrc, hrs, hfr, hlo, hws, hcw⟩, hcode, hini, hy, hlen, hl, hstt⟩ := cw
  have hK : vx_Back l R p e below s args y 3 8 (PreOf R mc ms Pc) (PostOf Qc mc ms free) (vx_Post XC mc ms free) := vx_backW (hh := hh) (bytes := bytes) (maxL := maxL) (ret := ret) hM hp.1 hrc hrs hfr hlo hws hcw (fun a' U hW => word_at hW (Or.inl (by first | rfl | simp [Cond.onTables, Cond.keeps, Cond.steady])) hini)
  obtain ⟨hx, hb, hml, ho, -⟩ := S
  intro T hT X
  rcases vx_callSX X hx (hh := hh) (bytes := bytes) (maxL := maxL) (ret := ret) ho hl hstt hini hcode hy hK hg (hsize.trans hml.symm) (argsL := As) (rest := rest) (fun sig h => hn.trans (hlen sig h)) hstack hW (by rw [hb]; exact hdg)
    (fun vm₁ hW₁ => ⟨hf.1, hf.2, hp.2 (T.setVm vm₁) hT hW₁⟩) with ⟨v, vm₁, ⟨U', l2, c2, s2⟩, hW₁, X', ⟨g', mk, t, L, e1, e2, hq, h1, hL, h2, h3⟩, st⟩ | ⟨q, vm₁, ⟨U', l2, c2, s2⟩, hW₁, X', ⟨g', mk, t, L, E, ce, e1, e2, hq, hce, hcv, hcl, h1, hL, h2, h3⟩, st⟩
  · dsimp only [Pt.U, Pt.locs, Pt.cells, Pt.slots] at X' e1 e2 h1 h2 h3 st
    subst h1; subst h2; subst h3
    exact Or.inl ⟨v, (T.setVm vm₁).calling g' mk As.toArray, t, U', L, hT, X', hL, e1, e2, hq, st⟩
  · dsimp only [Pt.U, Pt.locs, Pt.cells, Pt.slots] at X' e1 e2 h1 h2 h3 st hcl
    subst h1; subst h2; subst h3
    exact Or.inr ⟨q, (T.setVm vm₁).calling g' mk As.toArray, t, U', L, E, ce, hT, X', hL, e1, e2, hq, hce, hcv, vx_cls hW₁ hcl, st⟩
end
end VXH
theorem vx_ofWH {l : Launch} {y : MethodName} {ws ws' : List Cond} {rm : Room} {Pc : Array Value → State → Prop} {Qc : Array Value → State → Outcome → State → Prop} {XC : String → State → State → Prop} {mc ms : Nat} {free : Addr → Prop} {cc : ByteArray} {maxL : Nat} {ret : Option FieldType} {hh : List (Nat × Nat × Nat × Nat)}
    (hy : plainName y.cls = true) (hw : ws = Cond.codeWith y cc maxL ret hh :: ws')
    (body : ∀ p e s m args below meth c s₁, BodyLoose p l y (headSpec ws rm) cc maxL ret e s m args below meth c s₁ → c.maxLocals = maxL → Pc args s →
      W p l e (headSpec ws rm).room s m args below meth c s.heap [] 0 0 (vx_MQ below Qc XC args s mc ms free) (entryFrame m args maxL)) : vx_Met l y ws rm Pc Qc XC mc ms free := by
  refine MetFree.of_bodyS (code := cc) (maxLocals := maxL) (ret := ret) hy ?_ ?_
  · intro args s m h hn
    obtain ⟨m9, meth, c, hn9, h1, h2, h3, h4, -, h5, h6, -⟩ := Cond.codeWith_spec (atoms_spec (ws := ws) h _ (by rw [hw]; exact List.mem_cons_self))
    cases hn.symm.trans hn9
    exact ⟨meth, c, h1, h2, h3, h4, h5, h6⟩
  · intro p e s m args below meth c s₁ B hml hP _
    have hh0 : s₁.heap = s.heap := by rw [B.state]; rfl
    obtain ⟨t, a1, o, b1, b2, b3⟩ := body p e s m args below meth c s₁ B hml hP s₁ hh0 (Stand.of_body B)
    exact ⟨t, o, a1, b1, b2, b3⟩
/-! ===== END ===== -/
end
section
/-! ===== BEGIN printed: names, fields, word lists, decode rows ===== -/
def RX0 : String := "Opticmesh$Colouring"
def TX0 : u_T := fun k => match k with
  | 0 => ("Opticmesh$Colouring", "fibres", "[I", true)
  | 1 => ("Opticmesh$Colouring", "fibresTaken", "[I", true)
  | _ => ("Opticmesh$Colouring", "count", "I", false)
def tyX0 : Nat → FieldType := fun k => match k with
  | 0 => .array .int
  | 1 => .array .int
  | _ => .int
abbrev wsX00 : List Cond := u_ws RX0 TX0 3
theorem nmX0 : ∀ a, a < 3 → ∀ b, b < 3 → a ≠ b → (TX0 a).2.1 ≠ (TX0 b).2.1 := by decide +kernel
theorem tyX0_ok : ∀ k, k < 3 → parseFieldDescriptor (TX0 k).2.2.1 = some (tyX0 k) := by decide +kernel
abbrev cX0_init : ByteArray := prog_2_method_1_code
def yX0_init : MethodName := ⟨RX0, "<init>", "()V"⟩
abbrev cX0_clear : ByteArray := prog_2_method_2_code
def yX0_clear : MethodName := ⟨RX0, "clear", "()V"⟩
abbrev cX0_add : ByteArray := prog_2_method_3_code
def yX0_add : MethodName := ⟨RX0, "add", "(I)V"⟩
abbrev cX0_leastColours : ByteArray := prog_2_method_4_code
def yX0_leastColours : MethodName := ⟨RX0, "leastColours", "()I"⟩
abbrev cX0_waysOnBusiestFibre : ByteArray := prog_2_method_5_code
def yX0_waysOnBusiestFibre : MethodName := ⟨RX0, "waysOnBusiestFibre", "()I"⟩
abbrev cX0_canPaint : ByteArray := prog_2_method_6_code
def yX0_canPaint : MethodName := ⟨RX0, "canPaint", "(IIII)Z"⟩
abbrev cX0_mostBarred : ByteArray := prog_2_method_7_code
def yX0_mostBarred : MethodName := ⟨RX0, "mostBarred", "(II)I"⟩
def RX1 : String := "Opticmesh$Light"
def TX1 : u_T := fun k => match k with
  | 0 => ("Opticmesh$Light", "number", "I", true)
  | 1 => ("Opticmesh$Light", "first", "LOpticmesh$Way;", true)
  | 2 => ("Opticmesh$Light", "second", "LOpticmesh$Way;", true)
  | 3 => ("Opticmesh$Light", "from", "I", false)
  | 4 => ("Opticmesh$Light", "to", "I", false)
  | 5 => ("Opticmesh$Light", "isProtected", "Z", false)
  | _ => ("Opticmesh$Light", "units", "I", false)
def tyX1 : Nat → FieldType := fun k => match k with
  | 0 => .int
  | 1 => .object "Opticmesh$Way"
  | 2 => .object "Opticmesh$Way"
  | 3 => .int
  | 4 => .int
  | 5 => .boolean
  | _ => .int
abbrev wsX10 : List Cond := u_ws RX1 TX1 7
theorem nmX1 : ∀ a, a < 7 → ∀ b, b < 7 → a ≠ b → (TX1 a).2.1 ≠ (TX1 b).2.1 := by decide +kernel
theorem tyX1_ok : ∀ k, k < 7 → parseFieldDescriptor (TX1 k).2.2.1 = some (tyX1 k) := by decide +kernel
abbrev cX1_init : ByteArray := prog_3_method_1_code
def yX1_init : MethodName := ⟨RX1, "<init>", "(I)V"⟩
abbrev cX1_start : ByteArray := prog_3_method_2_code
def yX1_start : MethodName := ⟨RX1, "start", "(IILOpticmesh$Way;LOpticmesh$Way;)V"⟩
abbrev cX1_isGone : ByteArray := prog_3_method_3_code
def yX1_isGone : MethodName := ⟨RX1, "isGone", "()Z"⟩
abbrev cX1_isUp : ByteArray := prog_3_method_4_code
def yX1_isUp : MethodName := ⟨RX1, "isUp", "(I)Z"⟩
abbrev cX1_joins : ByteArray := prog_3_method_5_code
def yX1_joins : MethodName := ⟨RX1, "joins", "(II)Z"⟩
abbrev cX1_wayAt : ByteArray := prog_3_method_6_code
def yX1_wayAt : MethodName := ⟨RX1, "wayAt", "(I)LOpticmesh$Way;"⟩
abbrev cX1_wavelengthsOn : ByteArray := prog_3_method_7_code
def yX1_wavelengthsOn : MethodName := ⟨RX1, "wavelengthsOn", "(I)I"⟩
def RX2 : String := "Opticmesh$Network"
def TX2 : u_T := fun k => match k with
  | 0 => ("Opticmesh$Network", "nodeCount", "I", false)
  | 1 => ("Opticmesh$Network", "wavelengthCount", "I", false)
  | 2 => ("Opticmesh$Network", "fibreCount", "I", false)
  | 3 => ("Opticmesh$Network", "converters", "I", false)
  | 4 => ("Opticmesh$Network", "cutFibres", "I", false)
  | 5 => ("Opticmesh$Network", "ones", "[I", true)
  | 6 => ("Opticmesh$Network", "others", "[I", true)
  | _ => ("Opticmesh$Network", "lengths", "[I", true)
def tyX2 : Nat → FieldType := fun k => match k with
  | 0 => .int
  | 1 => .int
  | 2 => .int
  | 3 => .int
  | 4 => .int
  | 5 => .array .int
  | 6 => .array .int
  | _ => .array .int
abbrev wsX20 : List Cond := u_ws RX2 TX2 8
theorem nmX2 : ∀ a, a < 8 → ∀ b, b < 8 → a ≠ b → (TX2 a).2.1 ≠ (TX2 b).2.1 := by decide +kernel
theorem tyX2_ok : ∀ k, k < 8 → parseFieldDescriptor (TX2 k).2.2.1 = some (tyX2 k) := by decide +kernel
abbrev cX2_init : ByteArray := prog_4_method_1_code
def yX2_init : MethodName := ⟨RX2, "<init>", "()V"⟩
abbrev cX2_startAgain : ByteArray := prog_4_method_2_code
def yX2_startAgain : MethodName := ⟨RX2, "startAgain", "(II)V"⟩
abbrev cX2_join : ByteArray := prog_4_method_3_code
def yX2_join : MethodName := ⟨RX2, "join", "(III)I"⟩
abbrev cX2_hasNode : ByteArray := prog_4_method_4_code
def yX2_hasNode : MethodName := ⟨RX2, "hasNode", "(I)Z"⟩
abbrev cX2_hasFibre : ByteArray := prog_4_method_5_code
def yX2_hasFibre : MethodName := ⟨RX2, "hasFibre", "(I)Z"⟩
abbrev cX2_isCut : ByteArray := prog_4_method_6_code
def yX2_isCut : MethodName := ⟨RX2, "isCut", "(I)Z"⟩
abbrev cX2_acrossFrom : ByteArray := prog_4_method_7_code
def yX2_acrossFrom : MethodName := ⟨RX2, "acrossFrom", "(II)I"⟩
abbrev cX2_lengthOf : ByteArray := prog_4_method_8_code
def yX2_lengthOf : MethodName := ⟨RX2, "lengthOf", "(I)I"⟩
def RX3 : String := "Opticmesh$Way"
def TX3 : u_T := fun k => match k with
  | 0 => ("Opticmesh$Way", "count", "I", false)
  | 1 => ("Opticmesh$Way", "length", "I", false)
  | 2 => ("Opticmesh$Way", "conversions", "I", false)
  | 3 => ("Opticmesh$Way", "fibres", "I", false)
  | _ => ("Opticmesh$Way", "channelBytes", "J", false)
def tyX3 : Nat → FieldType := fun k => match k with
  | 0 => .int
  | 1 => .int
  | 2 => .int
  | 3 => .int
  | _ => .long
abbrev wsX30 : List Cond := u_ws RX3 TX3 5
theorem nmX3 : ∀ a, a < 5 → ∀ b, b < 5 → a ≠ b → (TX3 a).2.1 ≠ (TX3 b).2.1 := by decide +kernel
theorem tyX3_ok : ∀ k, k < 5 → parseFieldDescriptor (TX3 k).2.2.1 = some (tyX3 k) := by decide +kernel
abbrev cX3_init : ByteArray := prog_5_method_1_code
def yX3_init : MethodName := ⟨RX3, "<init>", "()V"⟩
abbrev cX3_start : ByteArray := prog_5_method_2_code
def yX3_start : MethodName := ⟨RX3, "start", "(II)V"⟩
abbrev cX3_append : ByteArray := prog_5_method_3_code
def yX3_append : MethodName := ⟨RX3, "append", "(II)V"⟩
abbrev cX3_become : ByteArray := prog_5_method_4_code
def yX3_become : MethodName := ⟨RX3, "become", "(LOpticmesh$Way;)V"⟩
abbrev cX3_channelAt : ByteArray := prog_5_method_5_code
def yX3_channelAt : MethodName := ⟨RX3, "channelAt", "(I)I"⟩
abbrev cX3_firstWavelength : ByteArray := prog_5_method_6_code
def yX3_firstWavelength : MethodName := ⟨RX3, "firstWavelength", "()I"⟩
abbrev cX3_uses : ByteArray := prog_5_method_7_code
def yX3_uses : MethodName := ⟨RX3, "uses", "(I)Z"⟩
abbrev cX3_wavelengthsOn : ByteArray := prog_5_method_8_code
def yX3_wavelengthsOn : MethodName := ⟨RX3, "wavelengthsOn", "(I)I"⟩
abbrev cX3_shiftTo : ByteArray := prog_5_method_9_code
def yX3_shiftTo : MethodName := ⟨RX3, "shiftTo", "(I)V"⟩
abbrev cX3_isAheadOf : ByteArray := prog_5_method_10_code
def yX3_isAheadOf : MethodName := ⟨RX3, "isAheadOf", "(LOpticmesh$Way;)Z"⟩
def RX4 : String := "Opticmesh$WayFinder"
def TX4 : u_T := fun k => match k with
  | 0 => ("Opticmesh$WayFinder", "first", "LOpticmesh$Way;", false)
  | 1 => ("Opticmesh$WayFinder", "second", "LOpticmesh$Way;", false)
  | 2 => ("Opticmesh$WayFinder", "open", "[I", true)
  | 3 => ("Opticmesh$WayFinder", "network", "LOpticmesh$Network;", true)
  | 4 => ("Opticmesh$WayFinder", "target", "I", false)
  | 5 => ("Opticmesh$WayFinder", "allowed", "I", false)
  | 6 => ("Opticmesh$WayFinder", "converters", "I", false)
  | 7 => ("Opticmesh$WayFinder", "trail", "[I", true)
  | 8 => ("Opticmesh$WayFinder", "openOnTrail", "[I", true)
  | 9 => ("Opticmesh$WayFinder", "convertsBefore", "[Z", true)
  | 10 => ("Opticmesh$WayFinder", "within", "[[I", true)
  | 11 => ("Opticmesh$WayFinder", "kept", "[LOpticmesh$Way;", true)
  | _ => ("Opticmesh$WayFinder", "keptCount", "I", false)
def tyX4 : Nat → FieldType := fun k => match k with
  | 0 => .object "Opticmesh$Way"
  | 1 => .object "Opticmesh$Way"
  | 2 => .array .int
  | 3 => .object "Opticmesh$Network"
  | 4 => .int
  | 5 => .int
  | 6 => .int
  | 7 => .array .int
  | 8 => .array .int
  | 9 => .array .boolean
  | 10 => .array (.array .int)
  | 11 => .array (.object "Opticmesh$Way")
  | _ => .int
abbrev wsX40 : List Cond := u_ws RX4 TX4 13
theorem nmX4 : ∀ a, a < 13 → ∀ b, b < 13 → a ≠ b → (TX4 a).2.1 ≠ (TX4 b).2.1 := by decide +kernel
theorem tyX4_ok : ∀ k, k < 13 → parseFieldDescriptor (TX4 k).2.2.1 = some (tyX4 k) := by decide +kernel
abbrev cX4_init : ByteArray := prog_6_method_1_code
def yX4_init : MethodName := ⟨RX4, "<init>", "(LOpticmesh$Network;)V"⟩
abbrev cX4_findFirst : ByteArray := prog_6_method_2_code
def yX4_findFirst : MethodName := ⟨RX4, "findFirst", "(II)V"⟩
abbrev cX4_findOnLowestWavelength : ByteArray := prog_6_method_3_code
def yX4_findOnLowestWavelength : MethodName := ⟨RX4, "findOnLowestWavelength", "(II)V"⟩
abbrev cX4_findPair : ByteArray := prog_6_method_4_code
def yX4_findPair : MethodName := ⟨RX4, "findPair", "(II)V"⟩
abbrev cX4_offerPair : ByteArray := prog_6_method_5_code
def yX4_offerPair : MethodName := ⟨RX4, "offerPair", "(LOpticmesh$Way;LOpticmesh$Way;)V"⟩
abbrev cX4_isPairAhead : ByteArray := prog_6_method_6_code
def yX4_isPairAhead : MethodName := ⟨RX4, "isPairAhead", "(LOpticmesh$Way;LOpticmesh$Way;LOpticmesh$Way;LOpticmesh$Way;)Z"⟩
abbrev cX4_pickFirst : ByteArray := prog_6_method_7_code
def yX4_pickFirst : MethodName := ⟨RX4, "pickFirst", "()V"⟩
abbrev cX4_aim : ByteArray := prog_6_method_8_code
def yX4_aim : MethodName := ⟨RX4, "aim", "(III)V"⟩
abbrev cX4_walk : ByteArray := prog_6_method_9_code
def yX4_walk : MethodName := ⟨RX4, "walk", "(IIIII)V"⟩
abbrev cX4_keep : ByteArray := prog_6_method_10_code
def yX4_keep : MethodName := ⟨RX4, "keep", "(II)V"⟩
abbrev cX4_takeLowestWavelengths : ByteArray := prog_6_method_11_code
def yX4_takeLowestWavelengths : MethodName := ⟨RX4, "takeLowestWavelengths", "(LOpticmesh$Way;II)V"⟩
abbrev cX4_countConversionsBackwards : ByteArray := prog_6_method_12_code
def yX4_countConversionsBackwards : MethodName := ⟨RX4, "countConversionsBackwards", "(I)V"⟩
abbrev cX4_leadingOn : ByteArray := prog_6_method_13_code
def yX4_leadingOn : MethodName := ⟨RX4, "leadingOn", "(III)I"⟩
def RX5 : String := "Opticmesh"
def TX5 : u_T := fun k => match k with
  | 0 => ("Opticmesh", "network", "LOpticmesh$Network;", true)
  | 1 => ("Opticmesh", "finder", "LOpticmesh$WayFinder;", true)
  | 2 => ("Opticmesh", "colouring", "LOpticmesh$Colouring;", true)
  | 3 => ("Opticmesh", "lightList", "[LOpticmesh$Light;", true)
  | 4 => ("Opticmesh", "lightCount", "I", false)
  | 5 => ("Opticmesh", "carriers", "[LOpticmesh$Light;", true)
  | 6 => ("Opticmesh", "demands", "[I", true)
  | _ => ("Opticmesh", "requestCount", "I", false)
def tyX5 : Nat → FieldType := fun k => match k with
  | 0 => .object "Opticmesh$Network"
  | 1 => .object "Opticmesh$WayFinder"
  | 2 => .object "Opticmesh$Colouring"
  | 3 => .array (.object "Opticmesh$Light")
  | 4 => .int
  | 5 => .array (.object "Opticmesh$Light")
  | 6 => .array .int
  | _ => .int
abbrev wsX50 : List Cond := u_ws RX5 TX5 8
theorem nmX5 : ∀ a, a < 8 → ∀ b, b < 8 → a ≠ b → (TX5 a).2.1 ≠ (TX5 b).2.1 := by decide +kernel
theorem tyX5_ok : ∀ k, k < 8 → parseFieldDescriptor (TX5 k).2.2.1 = some (tyX5 k) := by decide +kernel
abbrev cX5_init : ByteArray := prog_1_method_1_code
def yX5_init : MethodName := ⟨RX5, "<init>", "()V"⟩
abbrev cX5_begin : ByteArray := prog_1_method_2_code
def yX5_begin : MethodName := ⟨RX5, "begin", "(II)V"⟩
abbrev cX5_addFibre : ByteArray := prog_1_method_3_code
def yX5_addFibre : MethodName := ⟨RX5, "addFibre", "(III)I"⟩
abbrev cX5_toggleConverter : ByteArray := prog_1_method_4_code
def yX5_toggleConverter : MethodName := ⟨RX5, "toggleConverter", "(I)Z"⟩
abbrev cX5_cut : ByteArray := prog_1_method_5_code
def yX5_cut : MethodName := ⟨RX5, "cut", "(I)I"⟩
abbrev cX5_repair : ByteArray := prog_1_method_6_code
def yX5_repair : MethodName := ⟨RX5, "repair", "(I)I"⟩
abbrev cX5_lightOn : ByteArray := prog_1_method_7_code
def yX5_lightOn : MethodName := ⟨RX5, "lightOn", "(II)I"⟩
abbrev cX5_load : ByteArray := prog_1_method_8_code
def yX5_load : MethodName := ⟨RX5, "load", "()I"⟩
abbrev cX5_usage : ByteArray := prog_1_method_9_code
def yX5_usage : MethodName := ⟨RX5, "usage", "()F"⟩
abbrev cX5_request : ByteArray := prog_1_method_10_code
def yX5_request : MethodName := ⟨RX5, "request", "(IIII)I"⟩
abbrev cX5_newLength : ByteArray := prog_1_method_11_code
def yX5_newLength : MethodName := ⟨RX5, "newLength", "(III)I"⟩
abbrev cX5_release : ByteArray := prog_1_method_12_code
def yX5_release : MethodName := ⟨RX5, "release", "(I)I"⟩
abbrev cX5_lightOf : ByteArray := prog_1_method_13_code
def yX5_lightOf : MethodName := ⟨RX5, "lightOf", "(I)I"⟩
abbrev cX5_requests : ByteArray := prog_1_method_14_code
def yX5_requests : MethodName := ⟨RX5, "requests", "()I"⟩
abbrev cX5_lights : ByteArray := prog_1_method_15_code
def yX5_lights : MethodName := ⟨RX5, "lights", "()I"⟩
abbrev cX5_state : ByteArray := prog_1_method_16_code
def yX5_state : MethodName := ⟨RX5, "state", "(I)I"⟩
abbrev cX5_units : ByteArray := prog_1_method_17_code
def yX5_units : MethodName := ⟨RX5, "units", "(I)I"⟩
abbrev cX5_channels : ByteArray := prog_1_method_18_code
def yX5_channels : MethodName := ⟨RX5, "channels", "(II)I"⟩
abbrev cX5_channel : ByteArray := prog_1_method_19_code
def yX5_channel : MethodName := ⟨RX5, "channel", "(III)I"⟩
abbrev cX5_reroute : ByteArray := prog_1_method_20_code
def yX5_reroute : MethodName := ⟨RX5, "reroute", "(I)I"⟩
abbrev cX5_merge : ByteArray := prog_1_method_21_code
def yX5_merge : MethodName := ⟨RX5, "merge", "()I"⟩
abbrev cX5_move : ByteArray := prog_1_method_22_code
def yX5_move : MethodName := ⟨RX5, "move", "()I"⟩
abbrev cX5_wavelengthsNeeded : ByteArray := prog_1_method_23_code
def yX5_wavelengthsNeeded : MethodName := ⟨RX5, "wavelengthsNeeded", "()I"⟩
abbrev cX5_areTwoNodes : ByteArray := prog_1_method_24_code
def yX5_areTwoNodes : MethodName := ⟨RX5, "areTwoNodes", "(II)Z"⟩
abbrev cX5_isRule : ByteArray := prog_1_method_25_code
def yX5_isRule : MethodName := ⟨RX5, "isRule", "(I)Z"⟩
abbrev cX5_requireFibre : ByteArray := prog_1_method_26_code
def yX5_requireFibre : MethodName := ⟨RX5, "requireFibre", "(I)V"⟩
abbrev cX5_existingLight : ByteArray := prog_1_method_27_code
def yX5_existingLight : MethodName := ⟨RX5, "existingLight", "(I)LOpticmesh$Light;"⟩
abbrev cX5_wayOf : ByteArray := prog_1_method_28_code
def yX5_wayOf : MethodName := ⟨RX5, "wayOf", "(II)LOpticmesh$Way;"⟩
abbrev cX5_carrierOf : ByteArray := prog_1_method_29_code
def yX5_carrierOf : MethodName := ⟨RX5, "carrierOf", "(I)LOpticmesh$Light;"⟩
abbrev cX5_lightsUp : ByteArray := prog_1_method_30_code
def yX5_lightsUp : MethodName := ⟨RX5, "lightsUp", "()I"⟩
abbrev cX5_livingLights : ByteArray := prog_1_method_31_code
def yX5_livingLights : MethodName := ⟨RX5, "livingLights", "()I"⟩
abbrev cX5_wavelengthsUsed : ByteArray := prog_1_method_32_code
def yX5_wavelengthsUsed : MethodName := ⟨RX5, "wavelengthsUsed", "(ILOpticmesh$Light;)I"⟩
abbrev cX5_lightWithRoom : ByteArray := prog_1_method_33_code
def yX5_lightWithRoom : MethodName := ⟨RX5, "lightWithRoom", "(IIIZ)LOpticmesh$Light;"⟩
abbrev cX5_lightOnFoundWays : ByteArray := prog_1_method_34_code
def yX5_lightOnFoundWays : MethodName := ⟨RX5, "lightOnFoundWays", "(II)LOpticmesh$Light;"⟩
abbrev cX5_findWays : ByteArray := prog_1_method_35_code
def yX5_findWays : MethodName := ⟨RX5, "findWays", "(III)V"⟩
abbrev cX5_openChannels : ByteArray := prog_1_method_36_code
def yX5_openChannels : MethodName := ⟨RX5, "openChannels", "(LOpticmesh$Light;)V"⟩
abbrev cX5_canMerge : ByteArray := prog_1_method_37_code
def yX5_canMerge : MethodName := ⟨RX5, "canMerge", "(LOpticmesh$Light;LOpticmesh$Light;)Z"⟩
abbrev cX5_handOver : ByteArray := prog_1_method_38_code
def yX5_handOver : MethodName := ⟨RX5, "handOver", "(LOpticmesh$Light;LOpticmesh$Light;)V"⟩
abbrev cX5_lowerWavelength : ByteArray := prog_1_method_39_code
def yX5_lowerWavelength : MethodName := ⟨RX5, "lowerWavelength", "(LOpticmesh$Way;)Z"⟩
abbrev cX5_lowestIn : ByteArray := prog_1_method_40_code
def yX5_lowestIn : MethodName := ⟨RX5, "lowestIn", "(I)I"⟩
def RX6 : String := "OpticmeshModel"
def TX6 : u_T := fun k => match k with
  | 0 => ("OpticmeshModel", "thrown", "I", false)
  | 1 => ("OpticmeshModel", "nodes", "I", false)
  | 2 => ("OpticmeshModel", "wavelengths", "I", false)
  | 3 => ("OpticmeshModel", "fibres", "I", false)
  | 4 => ("OpticmeshModel", "doConvert", "[Z", true)
  | 5 => ("OpticmeshModel", "ones", "[I", true)
  | 6 => ("OpticmeshModel", "others", "[I", true)
  | 7 => ("OpticmeshModel", "lengths", "[I", true)
  | 8 => ("OpticmeshModel", "areCut", "[Z", true)
  | 9 => ("OpticmeshModel", "used", "[I", true)
  | 10 => ("OpticmeshModel", "requests", "I", false)
  | 11 => ("OpticmeshModel", "carriers", "[I", true)
  | 12 => ("OpticmeshModel", "demands", "[I", true)
  | 13 => ("OpticmeshModel", "lights", "I", false)
  | 14 => ("OpticmeshModel", "starts", "[I", true)
  | 15 => ("OpticmeshModel", "ends", "[I", true)
  | 16 => ("OpticmeshModel", "ways", "[I", true)
  | 17 => ("OpticmeshModel", "laid", "[I", true)
  | 18 => ("OpticmeshModel", "first", "[I", true)
  | 19 => ("OpticmeshModel", "second", "[I", true)
  | 20 => ("OpticmeshModel", "trial", "[I", true)
  | 21 => ("OpticmeshModel", "other", "[I", true)
  | 22 => ("OpticmeshModel", "best", "[I", true)
  | 23 => ("OpticmeshModel", "bestOther", "[I", true)
  | 24 => ("OpticmeshModel", "costs", "[I", true)
  | 25 => ("OpticmeshModel", "alive", "[I", true)
  | 26 => ("OpticmeshModel", "crossed", "[I", true)
  | _ => ("OpticmeshModel", "needed", "[I", true)
def tyX6 : Nat → FieldType := fun k => match k with
  | 0 => .int
  | 1 => .int
  | 2 => .int
  | 3 => .int
  | 4 => .array .boolean
  | 5 => .array .int
  | 6 => .array .int
  | 7 => .array .int
  | 8 => .array .boolean
  | 9 => .array .int
  | 10 => .int
  | 11 => .array .int
  | 12 => .array .int
  | 13 => .int
  | 14 => .array .int
  | 15 => .array .int
  | 16 => .array .int
  | 17 => .array .int
  | 18 => .array .int
  | 19 => .array .int
  | 20 => .array .int
  | 21 => .array .int
  | 22 => .array .int
  | 23 => .array .int
  | 24 => .array .int
  | 25 => .array .int
  | 26 => .array .int
  | _ => .array .int
abbrev wsX60 : List Cond := u_ws RX6 TX6 28
theorem nmX6 : ∀ a, a < 28 → ∀ b, b < 28 → a ≠ b → (TX6 a).2.1 ≠ (TX6 b).2.1 := by decide +kernel
theorem tyX6_ok : ∀ k, k < 28 → parseFieldDescriptor (TX6 k).2.2.1 = some (tyX6 k) := by decide +kernel
abbrev cX6_init : ByteArray := prog_8_method_1_code
def yX6_init : MethodName := ⟨RX6, "<init>", "()V"⟩
abbrev cX6_thrown : ByteArray := prog_8_method_2_code
def yX6_thrown : MethodName := ⟨RX6, "thrown", "()I"⟩
abbrev cX6_holds : ByteArray := prog_8_method_3_code
def yX6_holds : MethodName := ⟨RX6, "holds", "(I)Z"⟩
abbrev cX6_in : ByteArray := prog_8_method_4_code
def yX6_in : MethodName := ⟨RX6, "in", "(III)Z"⟩
abbrev cX6_empties : ByteArray := prog_8_method_5_code
def yX6_empties : MethodName := ⟨RX6, "empties", "()V"⟩
abbrev cX6_areTwo : ByteArray := prog_8_method_6_code
def yX6_areTwo : MethodName := ⟨RX6, "areTwo", "(II)Z"⟩
abbrev cX6_isFibre : ByteArray := prog_8_method_7_code
def yX6_isFibre : MethodName := ⟨RX6, "isFibre", "(I)Z"⟩
abbrev cX6_isLight : ByteArray := prog_8_method_8_code
def yX6_isLight : MethodName := ⟨RX6, "isLight", "(I)Z"⟩
abbrev cX6_begin : ByteArray := prog_8_method_9_code
def yX6_begin : MethodName := ⟨RX6, "begin", "(II)V"⟩
abbrev cX6_addFibre : ByteArray := prog_8_method_10_code
def yX6_addFibre : MethodName := ⟨RX6, "addFibre", "(III)I"⟩
abbrev cX6_toggleConverter : ByteArray := prog_8_method_11_code
def yX6_toggleConverter : MethodName := ⟨RX6, "toggleConverter", "(I)Z"⟩
abbrev cX6_numberOfUp : ByteArray := prog_8_method_12_code
def yX6_numberOfUp : MethodName := ⟨RX6, "numberOfUp", "()I"⟩
abbrev cX6_cut : ByteArray := prog_8_method_13_code
def yX6_cut : MethodName := ⟨RX6, "cut", "(I)I"⟩
abbrev cX6_repair : ByteArray := prog_8_method_14_code
def yX6_repair : MethodName := ⟨RX6, "repair", "(I)I"⟩
abbrev cX6_lightOn : ByteArray := prog_8_method_15_code
def yX6_lightOn : MethodName := ⟨RX6, "lightOn", "(II)I"⟩
abbrev cX6_usedOn : ByteArray := prog_8_method_16_code
def yX6_usedOn : MethodName := ⟨RX6, "usedOn", "(I)I"⟩
abbrev cX6_load : ByteArray := prog_8_method_17_code
def yX6_load : MethodName := ⟨RX6, "load", "()I"⟩
abbrev cX6_usage : ByteArray := prog_8_method_18_code
def yX6_usage : MethodName := ⟨RX6, "usage", "()F"⟩
abbrev cX6_sets : ByteArray := prog_8_method_19_code
def yX6_sets : MethodName := ⟨RX6, "sets", "([II)V"⟩
abbrev cX6_goesOn : ByteArray := prog_8_method_20_code
def yX6_goesOn : MethodName := ⟨RX6, "goesOn", "([III)Z"⟩
abbrev cX6_isStep : ByteArray := prog_8_method_21_code
def yX6_isStep : MethodName := ⟨RX6, "isStep", "([II)Z"⟩
abbrev cX6_free : ByteArray := prog_8_method_22_code
def yX6_free : MethodName := ⟨RX6, "free", "(II)I"⟩
abbrev cX6_cost : ByteArray := prog_8_method_23_code
def yX6_cost : MethodName := ⟨RX6, "cost", "([IIII)I"⟩
abbrev cX6_lays : ByteArray := prog_8_method_24_code
def yX6_lays : MethodName := ⟨RX6, "lays", "([III[I)Z"⟩
abbrev cX6_follows : ByteArray := prog_8_method_25_code
def yX6_follows : MethodName := ⟨RX6, "follows", "([III)I"⟩
abbrev cX6_isAhead : ByteArray := prog_8_method_26_code
def yX6_isAhead : MethodName := ⟨RX6, "isAhead", "([I[I)Z"⟩
abbrev cX6_copies : ByteArray := prog_8_method_27_code
def yX6_copies : MethodName := ⟨RX6, "copies", "([I[I)V"⟩
abbrev cX6_finds : ByteArray := prog_8_method_28_code
def yX6_finds : MethodName := ⟨RX6, "finds", "(IIII)Z"⟩
abbrev cX6_findsOneWavelength : ByteArray := prog_8_method_29_code
def yX6_findsOneWavelength : MethodName := ⟨RX6, "findsOneWavelength", "(II)Z"⟩
abbrev cX6_laysOne : ByteArray := prog_8_method_30_code
def yX6_laysOne : MethodName := ⟨RX6, "laysOne", "([I[I)Z"⟩
abbrev cX6_findsPair : ByteArray := prog_8_method_31_code
def yX6_findsPair : MethodName := ⟨RX6, "findsPair", "(II)Z"⟩
abbrev cX6_isBetterPair : ByteArray := prog_8_method_32_code
def yX6_isBetterPair : MethodName := ⟨RX6, "isBetterPair", "()Z"⟩
abbrev cX6_findsBy : ByteArray := prog_8_method_33_code
def yX6_findsBy : MethodName := ⟨RX6, "findsBy", "(III)Z"⟩
abbrev cX6_way : ByteArray := prog_8_method_34_code
def yX6_way : MethodName := ⟨RX6, "way", "(III)I"⟩
abbrev cX6_isUp : ByteArray := prog_8_method_35_code
def yX6_isUp : MethodName := ⟨RX6, "isUp", "(I)Z"⟩
abbrev cX6_carried : ByteArray := prog_8_method_36_code
def yX6_carried : MethodName := ⟨RX6, "carried", "(I)I"⟩
abbrev cX6_placeOf : ByteArray := prog_8_method_37_code
def yX6_placeOf : MethodName := ⟨RX6, "placeOf", "(I)I"⟩
abbrev cX6_uses : ByteArray := prog_8_method_38_code
def yX6_uses : MethodName := ⟨RX6, "uses", "(III)V"⟩
abbrev cX6_gets : ByteArray := prog_8_method_39_code
def yX6_gets : MethodName := ⟨RX6, "gets", "(II[I)V"⟩
abbrev cX6_ends : ByteArray := prog_8_method_40_code
def yX6_ends : MethodName := ⟨RX6, "ends", "(I)V"⟩
abbrev cX6_haveSameEnds : ByteArray := prog_8_method_41_code
def yX6_haveSameEnds : MethodName := ⟨RX6, "haveSameEnds", "(III)Z"⟩
abbrev cX6_roomFor : ByteArray := prog_8_method_42_code
def yX6_roomFor : MethodName := ⟨RX6, "roomFor", "(IIII)I"⟩
abbrev cX6_numberOfLights : ByteArray := prog_8_method_43_code
def yX6_numberOfLights : MethodName := ⟨RX6, "numberOfLights", "()I"⟩
abbrev cX6_makes : ByteArray := prog_8_method_44_code
def yX6_makes : MethodName := ⟨RX6, "makes", "(III)I"⟩
abbrev cX6_request : ByteArray := prog_8_method_45_code
def yX6_request : MethodName := ⟨RX6, "request", "(IIII)I"⟩
abbrev cX6_newLength : ByteArray := prog_8_method_46_code
def yX6_newLength : MethodName := ⟨RX6, "newLength", "(III)I"⟩
abbrev cX6_errorOfRequest : ByteArray := prog_8_method_47_code
def yX6_errorOfRequest : MethodName := ⟨RX6, "errorOfRequest", "(I)I"⟩
abbrev cX6_release : ByteArray := prog_8_method_48_code
def yX6_release : MethodName := ⟨RX6, "release", "(I)I"⟩
abbrev cX6_lightOf : ByteArray := prog_8_method_49_code
def yX6_lightOf : MethodName := ⟨RX6, "lightOf", "(I)I"⟩
abbrev cX6_requests : ByteArray := prog_8_method_50_code
def yX6_requests : MethodName := ⟨RX6, "requests", "()I"⟩
abbrev cX6_lights : ByteArray := prog_8_method_51_code
def yX6_lights : MethodName := ⟨RX6, "lights", "()I"⟩
abbrev cX6_state : ByteArray := prog_8_method_52_code
def yX6_state : MethodName := ⟨RX6, "state", "(I)I"⟩
abbrev cX6_units : ByteArray := prog_8_method_53_code
def yX6_units : MethodName := ⟨RX6, "units", "(I)I"⟩
abbrev cX6_isWay : ByteArray := prog_8_method_54_code
def yX6_isWay : MethodName := ⟨RX6, "isWay", "(II)Z"⟩
abbrev cX6_channels : ByteArray := prog_8_method_55_code
def yX6_channels : MethodName := ⟨RX6, "channels", "(II)I"⟩
abbrev cX6_channel : ByteArray := prog_8_method_56_code
def yX6_channel : MethodName := ⟨RX6, "channel", "(III)I"⟩
abbrev cX6_reroute : ByteArray := prog_8_method_57_code
def yX6_reroute : MethodName := ⟨RX6, "reroute", "(I)I"⟩
abbrev cX6_areMergeable : ByteArray := prog_8_method_58_code
def yX6_areMergeable : MethodName := ⟨RX6, "areMergeable", "(II)Z"⟩
abbrev cX6_merge : ByteArray := prog_8_method_59_code
def yX6_merge : MethodName := ⟨RX6, "merge", "()I"⟩
abbrev cX6_takesOver : ByteArray := prog_8_method_60_code
def yX6_takesOver : MethodName := ⟨RX6, "takesOver", "(II)V"⟩
abbrev cX6_lower : ByteArray := prog_8_method_61_code
def yX6_lower : MethodName := ⟨RX6, "lower", "(II)I"⟩
abbrev cX6_move : ByteArray := prog_8_method_62_code
def yX6_move : MethodName := ⟨RX6, "move", "()I"⟩
abbrev cX6_moves : ByteArray := prog_8_method_63_code
def yX6_moves : MethodName := ⟨RX6, "moves", "(III)V"⟩
abbrev cX6_fibresOf : ByteArray := prog_8_method_64_code
def yX6_fibresOf : MethodName := ⟨RX6, "fibresOf", "(I)I"⟩
abbrev cX6_laysCrossed : ByteArray := prog_8_method_65_code
def yX6_laysCrossed : MethodName := ⟨RX6, "laysCrossed", "()I"⟩
abbrev cX6_isApart : ByteArray := prog_8_method_66_code
def yX6_isApart : MethodName := ⟨RX6, "isApart", "(II)Z"⟩
abbrev cX6_wavelengthsNeeded : ByteArray := prog_8_method_67_code
def yX6_wavelengthsNeeded : MethodName := ⟨RX6, "wavelengthsNeeded", "()I"⟩
def RJ6 : String := "java/lang/Integer"
def TJ6 : u_T := fun k => match k with
  | _ => ("", "", "", false)
def tyJ6 : Nat → FieldType := fun k => match k with
  | _ => .int
abbrev wsJ60 : List Cond := u_ws RJ6 TJ6 0
theorem nmJ6 : ∀ a, a < 0 → ∀ b, b < 0 → a ≠ b → (TJ6 a).2.1 ≠ (TJ6 b).2.1 := by decide +kernel
theorem tyJ6_ok : ∀ k, k < 0 → parseFieldDescriptor (TJ6 k).2.2.1 = some (tyJ6 k) := by decide +kernel
abbrev cJ6_bitCount_0f7a4 : ByteArray := prog_13_method_49_code
def yJ6_bitCount_0f7a4 : MethodName := ⟨RJ6, "bitCount", "(I)I"⟩
def RJ9 : String := "java/lang/Math"
def TJ9 : u_T := fun k => match k with
  | _ => ("", "", "", false)
def tyJ9 : Nat → FieldType := fun k => match k with
  | _ => .int
abbrev wsJ90 : List Cond := u_ws RJ9 TJ9 0
theorem nmJ9 : ∀ a, a < 0 → ∀ b, b < 0 → a ≠ b → (TJ9 a).2.1 ≠ (TJ9 b).2.1 := by decide +kernel
theorem tyJ9_ok : ∀ k, k < 0 → parseFieldDescriptor (TJ9 k).2.2.1 = some (tyJ9 k) := by decide +kernel
abbrev cJ9_max_7cf53 : ByteArray := prog_14_method_65_code
def yJ9_max_7cf53 : MethodName := ⟨RJ9, "max", "(II)I"⟩
def RJ0 : String := "java/lang/String"
def TJ0 : u_T := fun k => match k with
  | _ => ("", "", "", false)
def tyJ0 : Nat → FieldType := fun k => match k with
  | _ => .int
abbrev wsJ00 : List Cond := u_ws RJ0 TJ0 0
theorem nmJ0 : ∀ a, a < 0 → ∀ b, b < 0 → a ≠ b → (TJ0 a).2.1 ≠ (TJ0 b).2.1 := by decide +kernel
theorem tyJ0_ok : ∀ k, k < 0 → parseFieldDescriptor (TJ0 k).2.2.1 = some (tyJ0 k) := by decide +kernel
def RL : String := "OpticmeshLaw"
abbrev cL_begin : ByteArray := method_3_code
def yL_begin : MethodName := ⟨RL, "begin", "(LOpticmesh;II)I"⟩
abbrev cL_addFibre : ByteArray := method_4_code
def yL_addFibre : MethodName := ⟨RL, "addFibre", "(LOpticmesh;III[J)I"⟩
abbrev cL_toggleConverter : ByteArray := method_5_code
def yL_toggleConverter : MethodName := ⟨RL, "toggleConverter", "(LOpticmesh;I[J)I"⟩
abbrev cL_cut : ByteArray := method_6_code
def yL_cut : MethodName := ⟨RL, "cut", "(LOpticmesh;I[J)I"⟩
abbrev cL_repair : ByteArray := method_7_code
def yL_repair : MethodName := ⟨RL, "repair", "(LOpticmesh;I[J)I"⟩
abbrev cL_lightOn : ByteArray := method_8_code
def yL_lightOn : MethodName := ⟨RL, "lightOn", "(LOpticmesh;II[J)I"⟩
abbrev cL_usage : ByteArray := method_9_code
def yL_usage : MethodName := ⟨RL, "usage", "(LOpticmesh;[D)I"⟩
abbrev cL_request : ByteArray := method_10_code
def yL_request : MethodName := ⟨RL, "request", "(LOpticmesh;IIII[J)I"⟩
abbrev cL_newLength : ByteArray := method_11_code
def yL_newLength : MethodName := ⟨RL, "newLength", "(LOpticmesh;III[J)I"⟩
abbrev cL_release : ByteArray := method_12_code
def yL_release : MethodName := ⟨RL, "release", "(LOpticmesh;I[J)I"⟩
abbrev cL_lightOf : ByteArray := method_13_code
def yL_lightOf : MethodName := ⟨RL, "lightOf", "(LOpticmesh;I[J)I"⟩
abbrev cL_state : ByteArray := method_14_code
def yL_state : MethodName := ⟨RL, "state", "(LOpticmesh;I[J)I"⟩
abbrev cL_units : ByteArray := method_15_code
def yL_units : MethodName := ⟨RL, "units", "(LOpticmesh;I[J)I"⟩
abbrev cL_channels : ByteArray := method_16_code
def yL_channels : MethodName := ⟨RL, "channels", "(LOpticmesh;II[J)I"⟩
abbrev cL_channel : ByteArray := method_17_code
def yL_channel : MethodName := ⟨RL, "channel", "(LOpticmesh;III[J)I"⟩
abbrev cL_reroute : ByteArray := method_18_code
def yL_reroute : MethodName := ⟨RL, "reroute", "(LOpticmesh;I[J)I"⟩
abbrev cL_merge : ByteArray := method_19_code
def yL_merge : MethodName := ⟨RL, "merge", "(LOpticmesh;[J)I"⟩
abbrev cL_move : ByteArray := method_20_code
def yL_move : MethodName := ⟨RL, "move", "(LOpticmesh;[J)I"⟩
abbrev cL_law : ByteArray := code
def yL_law : MethodName := ⟨RL, "law", "([I)Z"⟩
def wsX0_init : List Cond := .code yX0_init cX0_init 1 none :: ([.methodLink RX0 3 objectInit, .instanceMethod objectInit, .code objectInit ⟨#[0xb1]⟩ 1 none, .arrayClass .int, .fieldLink RX0 9 "Opticmesh$Colouring" "fibres" "[I", .fieldLink RX0 15 "Opticmesh$Colouring" "fibresTaken" "[I"] ++ wsX00)
def wsX0_clear : List Cond := .code yX0_clear cX0_clear 1 none :: ([.fieldLink RX0 18 "Opticmesh$Colouring" "count" "I"] ++ wsX00)
def wsX0_add : List Cond := .code yX0_add cX0_add 2 none :: ([.fieldLink RX0 18 "Opticmesh$Colouring" "count" "I", .fieldLink RX0 9 "Opticmesh$Colouring" "fibres" "[I"] ++ wsX00)
def wsX0_waysOnBusiestFibre : List Cond := .code yX0_waysOnBusiestFibre cX0_waysOnBusiestFibre 5 (some .int) :: ([.fieldLink RX0 18 "Opticmesh$Colouring" "count" "I", .fieldLink RX0 9 "Opticmesh$Colouring" "fibres" "[I", .methodLink RX0 30 Lib.Math.max.name, .static Lib.Math.max.name, .initialized "java/lang/Math", .code Lib.Math.max.name Lib.Math.max.code 2 (some .int)] ++ wsX00)
def wsX0_mostBarred : List Cond := .code yX0_mostBarred cX0_mostBarred 8 (some .int) :: ([.fieldLink RX0 18 "Opticmesh$Colouring" "count" "I", .fieldLink RX0 15 "Opticmesh$Colouring" "fibresTaken" "[I", .fieldLink RX0 9 "Opticmesh$Colouring" "fibres" "[I"] ++ wsX00)
def wsX0_canPaint : List Cond := .code yX0_canPaint cX0_canPaint 9 (some .boolean) :: ([.fieldLink RX0 18 "Opticmesh$Colouring" "count" "I", .fieldLink RX0 15 "Opticmesh$Colouring" "fibresTaken" "[I", .fieldLink RX0 9 "Opticmesh$Colouring" "fibres" "[I", .methodLink RX0 30 Lib.Math.max.name, .static Lib.Math.max.name, .initialized "java/lang/Math", .code Lib.Math.max.name Lib.Math.max.code 2 (some .int), .methodLink RX0 36 yX0_mostBarred, .instanceMethod yX0_mostBarred, .selects RX0 yX0_mostBarred yX0_mostBarred, .initialized RX0, .code yX0_mostBarred cX0_mostBarred 8 (some .int), .methodLink RX0 26 yX0_canPaint, .instanceMethod yX0_canPaint, .selects RX0 yX0_canPaint yX0_canPaint] ++ wsX00)
def wsX0_leastColours : List Cond := .code yX0_leastColours cX0_leastColours 2 (some .int) :: ([.fieldLink RX0 18 "Opticmesh$Colouring" "count" "I", .methodLink RX0 22 yX0_waysOnBusiestFibre, .instanceMethod yX0_waysOnBusiestFibre, .selects RX0 yX0_waysOnBusiestFibre yX0_waysOnBusiestFibre, .initialized RX0, .code yX0_waysOnBusiestFibre cX0_waysOnBusiestFibre 5 (some .int), .fieldLink RX0 9 "Opticmesh$Colouring" "fibres" "[I", .methodLink RX0 30 Lib.Math.max.name, .static Lib.Math.max.name, .initialized "java/lang/Math", .code Lib.Math.max.name Lib.Math.max.code 2 (some .int), .methodLink RX0 26 yX0_canPaint, .instanceMethod yX0_canPaint, .selects RX0 yX0_canPaint yX0_canPaint, .code yX0_canPaint cX0_canPaint 9 (some .boolean), .fieldLink RX0 15 "Opticmesh$Colouring" "fibresTaken" "[I", .methodLink RX0 36 yX0_mostBarred, .instanceMethod yX0_mostBarred, .selects RX0 yX0_mostBarred yX0_mostBarred, .code yX0_mostBarred cX0_mostBarred 8 (some .int)] ++ wsX00)
def wsX3_init : List Cond := .code yX3_init cX3_init 1 none :: ([.methodLink RX3 1 objectInit, .instanceMethod objectInit, .code objectInit ⟨#[0xb1]⟩ 1 none])
def wsX1_init : List Cond := .code yX1_init cX1_init 2 none :: ([.methodLink RX1 1 objectInit, .instanceMethod objectInit, .code objectInit ⟨#[0xb1]⟩ 1 none, .classLink RX1 7 RX3, .instantiable RX3 5, .initialized RX3, .fieldLink RX1 10 "Opticmesh$Light" "first" "LOpticmesh$Way;", .fieldLink RX1 16 "Opticmesh$Light" "second" "LOpticmesh$Way;", .fieldLink RX1 19 "Opticmesh$Light" "number" "I", .instanceMethod yX3_init, .code yX3_init cX3_init 1 none, .methodLink RX3 1 objectInit] ++ wsX30 ++ wsX10)
def wsX3_become : List Cond := .code yX3_become cX3_become 2 none :: ([.fieldLink RX3 7 "Opticmesh$Way" "count" "I", .fieldLink RX3 13 "Opticmesh$Way" "length" "I", .fieldLink RX3 16 "Opticmesh$Way" "conversions" "I", .fieldLink RX3 19 "Opticmesh$Way" "fibres" "I", .fieldLink RX3 22 "Opticmesh$Way" "channelBytes" "J"] ++ wsX30)
def wsX1_start : List Cond := .code yX1_start cX1_start 5 none :: ([.fieldLink RX1 23 "Opticmesh$Light" "from" "I", .fieldLink RX1 26 "Opticmesh$Light" "to" "I", .fieldLink RX1 29 "Opticmesh$Light" "units" "I", .fieldLink RX1 10 "Opticmesh$Light" "first" "LOpticmesh$Way;", .fieldLink RX1 36 "Opticmesh$Light" "isProtected" "Z", .fieldLink RX1 16 "Opticmesh$Light" "second" "LOpticmesh$Way;", .methodLink RX1 32 yX3_become, .instanceMethod yX3_become, .selects RX3 yX3_become yX3_become, .initialized RX3, .code yX3_become cX3_become 2 none, .fieldLink RX3 7 "Opticmesh$Way" "count" "I", .fieldLink RX3 13 "Opticmesh$Way" "length" "I", .fieldLink RX3 16 "Opticmesh$Way" "conversions" "I", .fieldLink RX3 19 "Opticmesh$Way" "fibres" "I", .fieldLink RX3 22 "Opticmesh$Way" "channelBytes" "J"] ++ wsX10 ++ wsX30)
def wsX1_isGone : List Cond := .code yX1_isGone cX1_isGone 1 (some .boolean) :: ([.fieldLink RX1 29 "Opticmesh$Light" "units" "I"] ++ wsX10)
def wsX1_isUp : List Cond := .code yX1_isUp cX1_isUp 2 (some .boolean) :: ([.fieldLink RX1 10 "Opticmesh$Light" "first" "LOpticmesh$Way;", .fieldLink RX1 44 "Opticmesh$Way" "fibres" "I", .fieldLink RX1 36 "Opticmesh$Light" "isProtected" "Z", .fieldLink RX1 16 "Opticmesh$Light" "second" "LOpticmesh$Way;", .methodLink RX1 40 yX1_isGone, .instanceMethod yX1_isGone, .selects RX1 yX1_isGone yX1_isGone, .initialized RX1, .code yX1_isGone cX1_isGone 1 (some .boolean), .fieldLink RX1 29 "Opticmesh$Light" "units" "I"] ++ wsX10 ++ wsX30)
def wsX1_joins : List Cond := .code yX1_joins cX1_joins 3 (some .boolean) :: ([.fieldLink RX1 23 "Opticmesh$Light" "from" "I", .fieldLink RX1 26 "Opticmesh$Light" "to" "I"] ++ wsX10)
def wsX1_wayAt : List Cond := .code yX1_wayAt cX1_wayAt 2 (some (.object "Opticmesh$Way")) :: ([.fieldLink RX1 10 "Opticmesh$Light" "first" "LOpticmesh$Way;", .fieldLink RX1 36 "Opticmesh$Light" "isProtected" "Z", .fieldLink RX1 16 "Opticmesh$Light" "second" "LOpticmesh$Way;", .methodLink RX1 40 yX1_isGone, .instanceMethod yX1_isGone, .selects RX1 yX1_isGone yX1_isGone, .initialized RX1, .code yX1_isGone cX1_isGone 1 (some .boolean), .fieldLink RX1 29 "Opticmesh$Light" "units" "I"] ++ wsX10)
def wsX3_uses : List Cond := .code yX3_uses cX3_uses 2 (some .boolean) :: ([.fieldLink RX3 19 "Opticmesh$Way" "fibres" "I"] ++ wsX30)
def wsX3_channelAt : List Cond := .code yX3_channelAt cX3_channelAt 2 (some .int) :: ([.fieldLink RX3 22 "Opticmesh$Way" "channelBytes" "J", .fieldLink RX3 7 "Opticmesh$Way" "count" "I"] ++ wsX30)
def wsX3_wavelengthsOn : List Cond := .code yX3_wavelengthsOn cX3_wavelengthsOn 5 (some .int) :: ([.fieldLink RX3 7 "Opticmesh$Way" "count" "I", .methodLink RX3 30 yX3_uses, .instanceMethod yX3_uses, .selects RX3 yX3_uses yX3_uses, .initialized RX3, .code yX3_uses cX3_uses 2 (some .boolean), .fieldLink RX3 19 "Opticmesh$Way" "fibres" "I", .methodLink RX3 26 yX3_channelAt, .instanceMethod yX3_channelAt, .selects RX3 yX3_channelAt yX3_channelAt, .code yX3_channelAt cX3_channelAt 2 (some .int), .fieldLink RX3 22 "Opticmesh$Way" "channelBytes" "J"] ++ wsX30)
def wsX1_wavelengthsOn_r1 : List Cond := [Cond.fieldLink RX1 10 "Opticmesh$Light" "first" "LOpticmesh$Way;", Cond.fieldLink RX1 36 "Opticmesh$Light" "isProtected" "Z", Cond.fieldLink RX1 16 "Opticmesh$Light" "second" "LOpticmesh$Way;", Cond.methodLink RX1 40 yX1_isGone, Cond.instanceMethod yX1_isGone, Cond.selects RX1 yX1_isGone yX1_isGone, Cond.initialized RX1, Cond.code yX1_isGone cX1_isGone 1 (some .boolean), Cond.fieldLink RX1 29 "Opticmesh$Light" "units" "I", Cond.methodLink RX1 47 yX3_wavelengthsOn, Cond.instanceMethod yX3_wavelengthsOn, Cond.selects RX3 yX3_wavelengthsOn yX3_wavelengthsOn, Cond.initialized RX3, Cond.code yX3_wavelengthsOn cX3_wavelengthsOn 5 (some .int), Cond.fieldLink RX3 7 "Opticmesh$Way" "count" "I", Cond.methodLink RX3 30 yX3_uses, Cond.instanceMethod yX3_uses, Cond.selects RX3 yX3_uses yX3_uses, Cond.code yX3_uses cX3_uses 2 (some .boolean), Cond.fieldLink RX3 19 "Opticmesh$Way" "fibres" "I", Cond.methodLink RX3 26 yX3_channelAt, Cond.instanceMethod yX3_channelAt, Cond.selects RX3 yX3_channelAt yX3_channelAt, Cond.code yX3_channelAt cX3_channelAt 2 (some .int)]
def wsX1_wavelengthsOn_r2 : List Cond := [Cond.fieldLink RX3 22 "Opticmesh$Way" "channelBytes" "J"]
def wsX1_wavelengthsOn : List Cond := .code yX1_wavelengthsOn cX1_wavelengthsOn 3 (some .int) :: ((wsX1_wavelengthsOn_r1 ++ wsX1_wavelengthsOn_r2) ++ wsX10 ++ wsX30)
def wsX2_init : List Cond := .code yX2_init cX2_init 1 none :: ([.methodLink RX2 3 objectInit, .instanceMethod objectInit, .code objectInit ⟨#[0xb1]⟩ 1 none, .fieldLink RX2 9 "Opticmesh$Network" "nodeCount" "I", .fieldLink RX2 15 "Opticmesh$Network" "wavelengthCount" "I", .arrayClass .int, .fieldLink RX2 18 "Opticmesh$Network" "ones" "[I", .fieldLink RX2 22 "Opticmesh$Network" "others" "[I", .fieldLink RX2 25 "Opticmesh$Network" "lengths" "[I"] ++ wsX20)
def wsX2_startAgain : List Cond := .code yX2_startAgain cX2_startAgain 3 none :: ([.fieldLink RX2 9 "Opticmesh$Network" "nodeCount" "I", .fieldLink RX2 15 "Opticmesh$Network" "wavelengthCount" "I", .fieldLink RX2 28 "Opticmesh$Network" "fibreCount" "I", .fieldLink RX2 31 "Opticmesh$Network" "converters" "I", .fieldLink RX2 34 "Opticmesh$Network" "cutFibres" "I"] ++ wsX20)
def wsX2_join : List Cond := .code yX2_join cX2_join 5 (some .int) :: ([.fieldLink RX2 28 "Opticmesh$Network" "fibreCount" "I", .fieldLink RX2 18 "Opticmesh$Network" "ones" "[I", .fieldLink RX2 22 "Opticmesh$Network" "others" "[I", .fieldLink RX2 25 "Opticmesh$Network" "lengths" "[I"] ++ wsX20)
def wsX2_hasNode : List Cond := .code yX2_hasNode cX2_hasNode 2 (some .boolean) :: ([.fieldLink RX2 9 "Opticmesh$Network" "nodeCount" "I"] ++ wsX20)
def wsX2_hasFibre : List Cond := .code yX2_hasFibre cX2_hasFibre 2 (some .boolean) :: ([.fieldLink RX2 28 "Opticmesh$Network" "fibreCount" "I"] ++ wsX20)
def wsX2_isCut : List Cond := .code yX2_isCut cX2_isCut 2 (some .boolean) :: ([.fieldLink RX2 34 "Opticmesh$Network" "cutFibres" "I"] ++ wsX20)
def wsX2_acrossFrom : List Cond := .code yX2_acrossFrom cX2_acrossFrom 3 (some .int) :: ([.fieldLink RX2 18 "Opticmesh$Network" "ones" "[I", .fieldLink RX2 22 "Opticmesh$Network" "others" "[I", .methodLink RX2 37 yX2_hasFibre, .instanceMethod yX2_hasFibre, .selects RX2 yX2_hasFibre yX2_hasFibre, .initialized RX2, .code yX2_hasFibre cX2_hasFibre 2 (some .boolean), .fieldLink RX2 28 "Opticmesh$Network" "fibreCount" "I"] ++ wsX20)
def wsX2_lengthOf : List Cond := .code yX2_lengthOf cX2_lengthOf 2 (some .int) :: ([.fieldLink RX2 25 "Opticmesh$Network" "lengths" "[I", .methodLink RX2 37 yX2_hasFibre, .instanceMethod yX2_hasFibre, .selects RX2 yX2_hasFibre yX2_hasFibre, .initialized RX2, .code yX2_hasFibre cX2_hasFibre 2 (some .boolean), .fieldLink RX2 28 "Opticmesh$Network" "fibreCount" "I"] ++ wsX20)
def wsX3_start : List Cond := .code yX3_start cX3_start 3 none :: ([.fieldLink RX3 7 "Opticmesh$Way" "count" "I", .fieldLink RX3 13 "Opticmesh$Way" "length" "I", .fieldLink RX3 16 "Opticmesh$Way" "conversions" "I", .fieldLink RX3 19 "Opticmesh$Way" "fibres" "I", .fieldLink RX3 22 "Opticmesh$Way" "channelBytes" "J"] ++ wsX30)
def wsX3_append : List Cond := .code yX3_append cX3_append 3 none :: ([.fieldLink RX3 22 "Opticmesh$Way" "channelBytes" "J", .fieldLink RX3 19 "Opticmesh$Way" "fibres" "I", .fieldLink RX3 7 "Opticmesh$Way" "count" "I"] ++ wsX30)
def wsX3_firstWavelength : List Cond := .code yX3_firstWavelength cX3_firstWavelength 1 (some .int) :: ([.methodLink RX3 26 yX3_channelAt, .instanceMethod yX3_channelAt, .selects RX3 yX3_channelAt yX3_channelAt, .initialized RX3, .code yX3_channelAt cX3_channelAt 2 (some .int), .fieldLink RX3 22 "Opticmesh$Way" "channelBytes" "J", .fieldLink RX3 7 "Opticmesh$Way" "count" "I"] ++ wsX30)
def wsX3_shiftTo : List Cond := .code yX3_shiftTo cX3_shiftTo 5 none :: ([.fieldLink RX3 7 "Opticmesh$Way" "count" "I", .fieldLink RX3 22 "Opticmesh$Way" "channelBytes" "J", .methodLink RX3 34 yX3_firstWavelength, .instanceMethod yX3_firstWavelength, .selects RX3 yX3_firstWavelength yX3_firstWavelength, .initialized RX3, .code yX3_firstWavelength cX3_firstWavelength 1 (some .int), .methodLink RX3 26 yX3_channelAt, .instanceMethod yX3_channelAt, .selects RX3 yX3_channelAt yX3_channelAt, .code yX3_channelAt cX3_channelAt 2 (some .int)] ++ wsX30)
def wsX3_isAheadOf : List Cond := .code yX3_isAheadOf cX3_isAheadOf 2 (some .boolean) :: ([.fieldLink RX3 13 "Opticmesh$Way" "length" "I", .fieldLink RX3 16 "Opticmesh$Way" "conversions" "I", .fieldLink RX3 7 "Opticmesh$Way" "count" "I", .fieldLink RX3 22 "Opticmesh$Way" "channelBytes" "J"] ++ wsX30)
def wsX4_init : List Cond := .code yX4_init cX4_init 3 none :: ([.methodLink RX4 3 objectInit, .instanceMethod objectInit, .code objectInit ⟨#[0xb1]⟩ 1 none, .arrayClass .int, .fieldLink RX4 9 "Opticmesh$WayFinder" "open" "[I", .fieldLink RX4 15 "Opticmesh$WayFinder" "trail" "[I", .fieldLink RX4 18 "Opticmesh$WayFinder" "openOnTrail" "[I", .arrayClass .boolean, .fieldLink RX4 21 "Opticmesh$WayFinder" "convertsBefore" "[Z", .classLink RX4 25 "[[I", .fieldLink RX4 27 "Opticmesh$WayFinder" "within" "[[I", .classLink RX4 30 RX3, .fieldLink RX4 32 "Opticmesh$WayFinder" "kept" "[LOpticmesh$Way;", .fieldLink RX4 36 "Opticmesh$WayFinder" "network" "LOpticmesh$Network;", .instantiable RX3 5, .initialized RX3, .instanceMethod yX3_init, .code yX3_init cX3_init 1 none, .methodLink RX3 1 objectInit] ++ wsX40 ++ wsX30)
def wsX4_aim : List Cond := .code yX4_aim cX4_aim 4 none :: ([.fieldLink RX4 86 "Opticmesh$WayFinder" "target" "I", .fieldLink RX4 89 "Opticmesh$WayFinder" "allowed" "I", .fieldLink RX4 92 "Opticmesh$WayFinder" "converters" "I", .fieldLink RX4 65 "Opticmesh$WayFinder" "keptCount" "I"] ++ wsX40)
def wsX4_leadingOn : List Cond := .code yX4_leadingOn cX4_leadingOn 4 (some .int) :: ([.fieldLink RX4 21 "Opticmesh$WayFinder" "convertsBefore" "[Z", .fieldLink RX4 27 "Opticmesh$WayFinder" "within" "[[I"] ++ wsX40)
def wsX4_countConversionsBackwards : List Cond := .code yX4_countConversionsBackwards cX4_countConversionsBackwards 4 none :: ([.fieldLink RX4 27 "Opticmesh$WayFinder" "within" "[[I", .fieldLink RX4 18 "Opticmesh$WayFinder" "openOnTrail" "[I", .methodLink RX4 122 yX4_leadingOn, .instanceMethod yX4_leadingOn, .selects RX4 yX4_leadingOn yX4_leadingOn, .initialized RX4, .code yX4_leadingOn cX4_leadingOn 4 (some .int), .fieldLink RX4 21 "Opticmesh$WayFinder" "convertsBefore" "[Z"] ++ wsX40)
def wsX5_lowestIn : List Cond := .code yX5_lowestIn cX5_lowestIn 2 (some .int) :: ([])
def wsX4_takeLowestWavelengths : List Cond := .code yX4_takeLowestWavelengths cX4_takeLowestWavelengths 10 none :: ([.fieldLink RX4 27 "Opticmesh$WayFinder" "within" "[[I", .fieldLink RX4 15 "Opticmesh$WayFinder" "trail" "[I", .fieldLink RX4 21 "Opticmesh$WayFinder" "convertsBefore" "[Z", .static yX5_lowestIn, .initialized RX5, .code yX5_lowestIn cX5_lowestIn 2 (some .int), .methodLink RX4 119 yX3_append, .instanceMethod yX3_append, .selects RX3 yX3_append yX3_append, .initialized RX3, .code yX3_append cX3_append 3 none, .fieldLink RX3 22 "Opticmesh$Way" "channelBytes" "J", .fieldLink RX3 19 "Opticmesh$Way" "fibres" "I", .fieldLink RX3 7 "Opticmesh$Way" "count" "I"] ++ wsX40 ++ wsX30)
def wsX4_keep_r1 : List Cond := [Cond.fieldLink RX4 65 "Opticmesh$WayFinder" "keptCount" "I", Cond.fieldLink RX4 27 "Opticmesh$WayFinder" "within" "[[I", Cond.fieldLink RX4 32 "Opticmesh$WayFinder" "kept" "[LOpticmesh$Way;", Cond.methodLink RX4 105 yX4_countConversionsBackwards, Cond.instanceMethod yX4_countConversionsBackwards, Cond.selects RX4 yX4_countConversionsBackwards yX4_countConversionsBackwards, Cond.initialized RX4, Cond.code yX4_countConversionsBackwards cX4_countConversionsBackwards 4 none, Cond.fieldLink RX4 18 "Opticmesh$WayFinder" "openOnTrail" "[I", Cond.methodLink RX4 122 yX4_leadingOn, Cond.instanceMethod yX4_leadingOn, Cond.selects RX4 yX4_leadingOn yX4_leadingOn, Cond.code yX4_leadingOn cX4_leadingOn 4 (some .int), Cond.fieldLink RX4 21 "Opticmesh$WayFinder" "convertsBefore" "[Z", Cond.methodLink RX4 109 yX3_start, Cond.instanceMethod yX3_start, Cond.selects RX3 yX3_start yX3_start, Cond.initialized RX3, Cond.code yX3_start cX3_start 3 none, Cond.fieldLink RX3 7 "Opticmesh$Way" "count" "I", Cond.fieldLink RX3 13 "Opticmesh$Way" "length" "I", Cond.fieldLink RX3 16 "Opticmesh$Way" "conversions" "I", Cond.fieldLink RX3 19 "Opticmesh$Way" "fibres" "I", Cond.fieldLink RX3 22 "Opticmesh$Way" "channelBytes" "J"]
def wsX4_keep_r2 : List Cond := [Cond.methodLink RX4 112 yX4_takeLowestWavelengths, Cond.instanceMethod yX4_takeLowestWavelengths, Cond.selects RX4 yX4_takeLowestWavelengths yX4_takeLowestWavelengths, Cond.code yX4_takeLowestWavelengths cX4_takeLowestWavelengths 10 none, Cond.fieldLink RX4 15 "Opticmesh$WayFinder" "trail" "[I", Cond.static yX5_lowestIn, Cond.initialized RX5, Cond.code yX5_lowestIn cX5_lowestIn 2 (some .int), Cond.methodLink RX4 119 yX3_append, Cond.instanceMethod yX3_append, Cond.selects RX3 yX3_append yX3_append, Cond.code yX3_append cX3_append 3 none]
def wsX4_keep : List Cond := .code yX4_keep cX4_keep 5 none :: ((wsX4_keep_r1 ++ wsX4_keep_r2) ++ wsX40 ++ wsX30)
def wsX4_walk_r1 : List Cond := [Cond.fieldLink RX4 86 "Opticmesh$WayFinder" "target" "I", Cond.fieldLink RX4 92 "Opticmesh$WayFinder" "converters" "I", Cond.fieldLink RX4 36 "Opticmesh$WayFinder" "network" "LOpticmesh$Network;", Cond.fieldLink RX4 9 "Opticmesh$WayFinder" "open" "[I", Cond.fieldLink RX4 89 "Opticmesh$WayFinder" "allowed" "I", Cond.fieldLink RX4 15 "Opticmesh$WayFinder" "trail" "[I", Cond.fieldLink RX4 18 "Opticmesh$WayFinder" "openOnTrail" "[I", Cond.fieldLink RX4 21 "Opticmesh$WayFinder" "convertsBefore" "[Z", Cond.methodLink RX4 93 yX4_keep, Cond.instanceMethod yX4_keep, Cond.selects RX4 yX4_keep yX4_keep, Cond.initialized RX4, Cond.code yX4_keep cX4_keep 5 none, Cond.fieldLink RX4 65 "Opticmesh$WayFinder" "keptCount" "I", Cond.fieldLink RX4 27 "Opticmesh$WayFinder" "within" "[[I", Cond.fieldLink RX4 32 "Opticmesh$WayFinder" "kept" "[LOpticmesh$Way;", Cond.methodLink RX4 105 yX4_countConversionsBackwards, Cond.instanceMethod yX4_countConversionsBackwards, Cond.selects RX4 yX4_countConversionsBackwards yX4_countConversionsBackwards, Cond.code yX4_countConversionsBackwards cX4_countConversionsBackwards 4 none, Cond.methodLink RX4 122 yX4_leadingOn, Cond.instanceMethod yX4_leadingOn, Cond.selects RX4 yX4_leadingOn yX4_leadingOn, Cond.code yX4_leadingOn cX4_leadingOn 4 (some .int)]
def wsX4_walk_r2 : List Cond := [Cond.methodLink RX4 109 yX3_start, Cond.instanceMethod yX3_start, Cond.selects RX3 yX3_start yX3_start, Cond.initialized RX3, Cond.code yX3_start cX3_start 3 none, Cond.fieldLink RX3 7 "Opticmesh$Way" "count" "I", Cond.fieldLink RX3 13 "Opticmesh$Way" "length" "I", Cond.fieldLink RX3 16 "Opticmesh$Way" "conversions" "I", Cond.fieldLink RX3 19 "Opticmesh$Way" "fibres" "I", Cond.fieldLink RX3 22 "Opticmesh$Way" "channelBytes" "J", Cond.methodLink RX4 112 yX4_takeLowestWavelengths, Cond.instanceMethod yX4_takeLowestWavelengths, Cond.selects RX4 yX4_takeLowestWavelengths yX4_takeLowestWavelengths, Cond.code yX4_takeLowestWavelengths cX4_takeLowestWavelengths 10 none, Cond.static yX5_lowestIn, Cond.initialized RX5, Cond.code yX5_lowestIn cX5_lowestIn 2 (some .int), Cond.methodLink RX4 119 yX3_append, Cond.instanceMethod yX3_append, Cond.selects RX3 yX3_append yX3_append, Cond.code yX3_append cX3_append 3 none, Cond.methodLink RX4 97 yX2_acrossFrom, Cond.instanceMethod yX2_acrossFrom, Cond.selects RX2 yX2_acrossFrom yX2_acrossFrom]
def wsX4_walk_r3 : List Cond := [Cond.initialized RX2, Cond.code yX2_acrossFrom cX2_acrossFrom 3 (some .int), Cond.fieldLink RX2 18 "Opticmesh$Network" "ones" "[I", Cond.fieldLink RX2 22 "Opticmesh$Network" "others" "[I", Cond.methodLink RX2 37 yX2_hasFibre, Cond.instanceMethod yX2_hasFibre, Cond.selects RX2 yX2_hasFibre yX2_hasFibre, Cond.code yX2_hasFibre cX2_hasFibre 2 (some .boolean), Cond.fieldLink RX2 28 "Opticmesh$Network" "fibreCount" "I", Cond.methodLink RX4 101 yX2_lengthOf, Cond.instanceMethod yX2_lengthOf, Cond.selects RX2 yX2_lengthOf yX2_lengthOf, Cond.code yX2_lengthOf cX2_lengthOf 2 (some .int), Cond.fieldLink RX2 25 "Opticmesh$Network" "lengths" "[I", Cond.methodLink RX4 51 yX4_walk, Cond.instanceMethod yX4_walk, Cond.selects RX4 yX4_walk yX4_walk]
def wsX4_walk : List Cond := .code yX4_walk cX4_walk 11 none :: ((wsX4_walk_r1 ++ (wsX4_walk_r2 ++ wsX4_walk_r3)) ++ wsX40 ++ wsX30 ++ wsX20)
def wsX4_pickFirst : List Cond := .code yX4_pickFirst cX4_pickFirst 2 none :: ([.fieldLink RX4 58 "Opticmesh$WayFinder" "first" "LOpticmesh$Way;", .fieldLink RX4 62 "Opticmesh$WayFinder" "second" "LOpticmesh$Way;", .fieldLink RX4 65 "Opticmesh$WayFinder" "keptCount" "I", .fieldLink RX4 32 "Opticmesh$WayFinder" "kept" "[LOpticmesh$Way;", .methodLink RX4 75 yX3_isAheadOf, .instanceMethod yX3_isAheadOf, .selects RX3 yX3_isAheadOf yX3_isAheadOf, .initialized RX3, .code yX3_isAheadOf cX3_isAheadOf 2 (some .boolean), .fieldLink RX3 13 "Opticmesh$Way" "length" "I", .fieldLink RX3 16 "Opticmesh$Way" "conversions" "I", .fieldLink RX3 7 "Opticmesh$Way" "count" "I", .fieldLink RX3 22 "Opticmesh$Way" "channelBytes" "J"] ++ wsX40 ++ wsX30)
def wsX4_findFirst_r1 : List Cond := [Cond.fieldLink RX4 36 "Opticmesh$WayFinder" "network" "LOpticmesh$Network;", Cond.fieldLink RX4 41 "Opticmesh$Network" "converters" "I", Cond.methodLink RX4 47 yX4_aim, Cond.instanceMethod yX4_aim, Cond.selects RX4 yX4_aim yX4_aim, Cond.initialized RX4, Cond.code yX4_aim cX4_aim 4 none, Cond.fieldLink RX4 86 "Opticmesh$WayFinder" "target" "I", Cond.fieldLink RX4 89 "Opticmesh$WayFinder" "allowed" "I", Cond.fieldLink RX4 92 "Opticmesh$WayFinder" "converters" "I", Cond.fieldLink RX4 65 "Opticmesh$WayFinder" "keptCount" "I", Cond.methodLink RX4 51 yX4_walk, Cond.instanceMethod yX4_walk, Cond.selects RX4 yX4_walk yX4_walk, Cond.code yX4_walk cX4_walk 11 none, Cond.fieldLink RX4 9 "Opticmesh$WayFinder" "open" "[I", Cond.fieldLink RX4 15 "Opticmesh$WayFinder" "trail" "[I", Cond.fieldLink RX4 18 "Opticmesh$WayFinder" "openOnTrail" "[I", Cond.fieldLink RX4 21 "Opticmesh$WayFinder" "convertsBefore" "[Z", Cond.methodLink RX4 93 yX4_keep, Cond.instanceMethod yX4_keep, Cond.selects RX4 yX4_keep yX4_keep, Cond.code yX4_keep cX4_keep 5 none, Cond.fieldLink RX4 27 "Opticmesh$WayFinder" "within" "[[I"]
def wsX4_findFirst_r2 : List Cond := [Cond.fieldLink RX4 32 "Opticmesh$WayFinder" "kept" "[LOpticmesh$Way;", Cond.methodLink RX4 105 yX4_countConversionsBackwards, Cond.instanceMethod yX4_countConversionsBackwards, Cond.selects RX4 yX4_countConversionsBackwards yX4_countConversionsBackwards, Cond.code yX4_countConversionsBackwards cX4_countConversionsBackwards 4 none, Cond.methodLink RX4 122 yX4_leadingOn, Cond.instanceMethod yX4_leadingOn, Cond.selects RX4 yX4_leadingOn yX4_leadingOn, Cond.code yX4_leadingOn cX4_leadingOn 4 (some .int), Cond.methodLink RX4 109 yX3_start, Cond.instanceMethod yX3_start, Cond.selects RX3 yX3_start yX3_start, Cond.initialized RX3, Cond.code yX3_start cX3_start 3 none, Cond.fieldLink RX3 7 "Opticmesh$Way" "count" "I", Cond.fieldLink RX3 13 "Opticmesh$Way" "length" "I", Cond.fieldLink RX3 16 "Opticmesh$Way" "conversions" "I", Cond.fieldLink RX3 19 "Opticmesh$Way" "fibres" "I", Cond.fieldLink RX3 22 "Opticmesh$Way" "channelBytes" "J", Cond.methodLink RX4 112 yX4_takeLowestWavelengths, Cond.instanceMethod yX4_takeLowestWavelengths, Cond.selects RX4 yX4_takeLowestWavelengths yX4_takeLowestWavelengths, Cond.code yX4_takeLowestWavelengths cX4_takeLowestWavelengths 10 none, Cond.static yX5_lowestIn]
def wsX4_findFirst_r3 : List Cond := [Cond.initialized RX5, Cond.code yX5_lowestIn cX5_lowestIn 2 (some .int), Cond.methodLink RX4 119 yX3_append, Cond.instanceMethod yX3_append, Cond.selects RX3 yX3_append yX3_append, Cond.code yX3_append cX3_append 3 none, Cond.methodLink RX4 97 yX2_acrossFrom, Cond.instanceMethod yX2_acrossFrom, Cond.selects RX2 yX2_acrossFrom yX2_acrossFrom, Cond.initialized RX2, Cond.code yX2_acrossFrom cX2_acrossFrom 3 (some .int), Cond.fieldLink RX2 18 "Opticmesh$Network" "ones" "[I", Cond.fieldLink RX2 22 "Opticmesh$Network" "others" "[I", Cond.methodLink RX2 37 yX2_hasFibre, Cond.instanceMethod yX2_hasFibre, Cond.selects RX2 yX2_hasFibre yX2_hasFibre, Cond.code yX2_hasFibre cX2_hasFibre 2 (some .boolean), Cond.fieldLink RX2 28 "Opticmesh$Network" "fibreCount" "I", Cond.methodLink RX4 101 yX2_lengthOf, Cond.instanceMethod yX2_lengthOf, Cond.selects RX2 yX2_lengthOf yX2_lengthOf, Cond.code yX2_lengthOf cX2_lengthOf 2 (some .int), Cond.fieldLink RX2 25 "Opticmesh$Network" "lengths" "[I", Cond.methodLink RX4 55 yX4_pickFirst]
def wsX4_findFirst_r4 : List Cond := [Cond.instanceMethod yX4_pickFirst, Cond.selects RX4 yX4_pickFirst yX4_pickFirst, Cond.code yX4_pickFirst cX4_pickFirst 2 none, Cond.fieldLink RX4 58 "Opticmesh$WayFinder" "first" "LOpticmesh$Way;", Cond.fieldLink RX4 62 "Opticmesh$WayFinder" "second" "LOpticmesh$Way;", Cond.methodLink RX4 75 yX3_isAheadOf, Cond.instanceMethod yX3_isAheadOf, Cond.selects RX3 yX3_isAheadOf yX3_isAheadOf, Cond.code yX3_isAheadOf cX3_isAheadOf 2 (some .boolean)]
def wsX4_findFirst : List Cond := .code yX4_findFirst cX4_findFirst 3 none :: ((wsX4_findFirst_r1 ++ (wsX4_findFirst_r2 ++ (wsX4_findFirst_r3 ++ wsX4_findFirst_r4))) ++ wsX40 ++ wsX20 ++ wsX30)
def wsX4_findOnLowestWavelength_r1 : List Cond := [Cond.fieldLink RX4 58 "Opticmesh$WayFinder" "first" "LOpticmesh$Way;", Cond.methodLink RX4 47 yX4_aim, Cond.instanceMethod yX4_aim, Cond.selects RX4 yX4_aim yX4_aim, Cond.initialized RX4, Cond.code yX4_aim cX4_aim 4 none, Cond.fieldLink RX4 86 "Opticmesh$WayFinder" "target" "I", Cond.fieldLink RX4 89 "Opticmesh$WayFinder" "allowed" "I", Cond.fieldLink RX4 92 "Opticmesh$WayFinder" "converters" "I", Cond.fieldLink RX4 65 "Opticmesh$WayFinder" "keptCount" "I", Cond.methodLink RX4 51 yX4_walk, Cond.instanceMethod yX4_walk, Cond.selects RX4 yX4_walk yX4_walk, Cond.code yX4_walk cX4_walk 11 none, Cond.fieldLink RX4 36 "Opticmesh$WayFinder" "network" "LOpticmesh$Network;", Cond.fieldLink RX4 9 "Opticmesh$WayFinder" "open" "[I", Cond.fieldLink RX4 15 "Opticmesh$WayFinder" "trail" "[I", Cond.fieldLink RX4 18 "Opticmesh$WayFinder" "openOnTrail" "[I", Cond.fieldLink RX4 21 "Opticmesh$WayFinder" "convertsBefore" "[Z", Cond.methodLink RX4 93 yX4_keep, Cond.instanceMethod yX4_keep, Cond.selects RX4 yX4_keep yX4_keep, Cond.code yX4_keep cX4_keep 5 none, Cond.fieldLink RX4 27 "Opticmesh$WayFinder" "within" "[[I"]
def wsX4_findOnLowestWavelength_r2 : List Cond := [Cond.fieldLink RX4 32 "Opticmesh$WayFinder" "kept" "[LOpticmesh$Way;", Cond.methodLink RX4 105 yX4_countConversionsBackwards, Cond.instanceMethod yX4_countConversionsBackwards, Cond.selects RX4 yX4_countConversionsBackwards yX4_countConversionsBackwards, Cond.code yX4_countConversionsBackwards cX4_countConversionsBackwards 4 none, Cond.methodLink RX4 122 yX4_leadingOn, Cond.instanceMethod yX4_leadingOn, Cond.selects RX4 yX4_leadingOn yX4_leadingOn, Cond.code yX4_leadingOn cX4_leadingOn 4 (some .int), Cond.methodLink RX4 109 yX3_start, Cond.instanceMethod yX3_start, Cond.selects RX3 yX3_start yX3_start, Cond.initialized RX3, Cond.code yX3_start cX3_start 3 none, Cond.fieldLink RX3 7 "Opticmesh$Way" "count" "I", Cond.fieldLink RX3 13 "Opticmesh$Way" "length" "I", Cond.fieldLink RX3 16 "Opticmesh$Way" "conversions" "I", Cond.fieldLink RX3 19 "Opticmesh$Way" "fibres" "I", Cond.fieldLink RX3 22 "Opticmesh$Way" "channelBytes" "J", Cond.methodLink RX4 112 yX4_takeLowestWavelengths, Cond.instanceMethod yX4_takeLowestWavelengths, Cond.selects RX4 yX4_takeLowestWavelengths yX4_takeLowestWavelengths, Cond.code yX4_takeLowestWavelengths cX4_takeLowestWavelengths 10 none, Cond.static yX5_lowestIn]
def wsX4_findOnLowestWavelength_r3 : List Cond := [Cond.initialized RX5, Cond.code yX5_lowestIn cX5_lowestIn 2 (some .int), Cond.methodLink RX4 119 yX3_append, Cond.instanceMethod yX3_append, Cond.selects RX3 yX3_append yX3_append, Cond.code yX3_append cX3_append 3 none, Cond.methodLink RX4 97 yX2_acrossFrom, Cond.instanceMethod yX2_acrossFrom, Cond.selects RX2 yX2_acrossFrom yX2_acrossFrom, Cond.initialized RX2, Cond.code yX2_acrossFrom cX2_acrossFrom 3 (some .int), Cond.fieldLink RX2 18 "Opticmesh$Network" "ones" "[I", Cond.fieldLink RX2 22 "Opticmesh$Network" "others" "[I", Cond.methodLink RX2 37 yX2_hasFibre, Cond.instanceMethod yX2_hasFibre, Cond.selects RX2 yX2_hasFibre yX2_hasFibre, Cond.code yX2_hasFibre cX2_hasFibre 2 (some .boolean), Cond.fieldLink RX2 28 "Opticmesh$Network" "fibreCount" "I", Cond.methodLink RX4 101 yX2_lengthOf, Cond.instanceMethod yX2_lengthOf, Cond.selects RX2 yX2_lengthOf yX2_lengthOf, Cond.code yX2_lengthOf cX2_lengthOf 2 (some .int), Cond.fieldLink RX2 25 "Opticmesh$Network" "lengths" "[I", Cond.methodLink RX4 55 yX4_pickFirst]
def wsX4_findOnLowestWavelength_r4 : List Cond := [Cond.instanceMethod yX4_pickFirst, Cond.selects RX4 yX4_pickFirst yX4_pickFirst, Cond.code yX4_pickFirst cX4_pickFirst 2 none, Cond.fieldLink RX4 62 "Opticmesh$WayFinder" "second" "LOpticmesh$Way;", Cond.methodLink RX4 75 yX3_isAheadOf, Cond.instanceMethod yX3_isAheadOf, Cond.selects RX3 yX3_isAheadOf yX3_isAheadOf, Cond.code yX3_isAheadOf cX3_isAheadOf 2 (some .boolean)]
def wsX4_findOnLowestWavelength : List Cond := .code yX4_findOnLowestWavelength cX4_findOnLowestWavelength 4 none :: ((wsX4_findOnLowestWavelength_r1 ++ (wsX4_findOnLowestWavelength_r2 ++ (wsX4_findOnLowestWavelength_r3 ++ wsX4_findOnLowestWavelength_r4))) ++ wsX40 ++ wsX30 ++ wsX20)
def wsX4_isPairAhead : List Cond := .code yX4_isPairAhead cX4_isPairAhead 5 (some .boolean) :: ([.fieldLink RX4 83 "Opticmesh$Way" "length" "I", .methodLink RX4 75 yX3_isAheadOf, .instanceMethod yX3_isAheadOf, .selects RX3 yX3_isAheadOf yX3_isAheadOf, .initialized RX3, .code yX3_isAheadOf cX3_isAheadOf 2 (some .boolean), .fieldLink RX3 13 "Opticmesh$Way" "length" "I", .fieldLink RX3 16 "Opticmesh$Way" "conversions" "I", .fieldLink RX3 7 "Opticmesh$Way" "count" "I", .fieldLink RX3 22 "Opticmesh$Way" "channelBytes" "J"] ++ wsX30)
def wsX4_offerPair : List Cond := .code yX4_offerPair cX4_offerPair 6 none :: ([.fieldLink RX4 58 "Opticmesh$WayFinder" "first" "LOpticmesh$Way;", .fieldLink RX4 62 "Opticmesh$WayFinder" "second" "LOpticmesh$Way;", .methodLink RX4 75 yX3_isAheadOf, .instanceMethod yX3_isAheadOf, .selects RX3 yX3_isAheadOf yX3_isAheadOf, .initialized RX3, .code yX3_isAheadOf cX3_isAheadOf 2 (some .boolean), .fieldLink RX3 13 "Opticmesh$Way" "length" "I", .fieldLink RX3 16 "Opticmesh$Way" "conversions" "I", .fieldLink RX3 7 "Opticmesh$Way" "count" "I", .fieldLink RX3 22 "Opticmesh$Way" "channelBytes" "J", .methodLink RX4 79 yX4_isPairAhead, .static yX4_isPairAhead, .initialized RX4, .code yX4_isPairAhead cX4_isPairAhead 5 (some .boolean), .fieldLink RX4 83 "Opticmesh$Way" "length" "I"] ++ wsX40 ++ wsX30)
def wsX4_findPair_r1 : List Cond := [Cond.fieldLink RX4 58 "Opticmesh$WayFinder" "first" "LOpticmesh$Way;", Cond.fieldLink RX4 62 "Opticmesh$WayFinder" "second" "LOpticmesh$Way;", Cond.fieldLink RX4 65 "Opticmesh$WayFinder" "keptCount" "I", Cond.fieldLink RX4 32 "Opticmesh$WayFinder" "kept" "[LOpticmesh$Way;", Cond.fieldLink RX4 68 "Opticmesh$Way" "fibres" "I", Cond.methodLink RX4 47 yX4_aim, Cond.instanceMethod yX4_aim, Cond.selects RX4 yX4_aim yX4_aim, Cond.initialized RX4, Cond.code yX4_aim cX4_aim 4 none, Cond.fieldLink RX4 86 "Opticmesh$WayFinder" "target" "I", Cond.fieldLink RX4 89 "Opticmesh$WayFinder" "allowed" "I", Cond.fieldLink RX4 92 "Opticmesh$WayFinder" "converters" "I", Cond.methodLink RX4 51 yX4_walk, Cond.instanceMethod yX4_walk, Cond.selects RX4 yX4_walk yX4_walk, Cond.code yX4_walk cX4_walk 11 none, Cond.fieldLink RX4 36 "Opticmesh$WayFinder" "network" "LOpticmesh$Network;", Cond.fieldLink RX4 9 "Opticmesh$WayFinder" "open" "[I", Cond.fieldLink RX4 15 "Opticmesh$WayFinder" "trail" "[I", Cond.fieldLink RX4 18 "Opticmesh$WayFinder" "openOnTrail" "[I", Cond.fieldLink RX4 21 "Opticmesh$WayFinder" "convertsBefore" "[Z", Cond.methodLink RX4 93 yX4_keep, Cond.instanceMethod yX4_keep]
def wsX4_findPair_r2 : List Cond := [Cond.selects RX4 yX4_keep yX4_keep, Cond.code yX4_keep cX4_keep 5 none, Cond.fieldLink RX4 27 "Opticmesh$WayFinder" "within" "[[I", Cond.methodLink RX4 105 yX4_countConversionsBackwards, Cond.instanceMethod yX4_countConversionsBackwards, Cond.selects RX4 yX4_countConversionsBackwards yX4_countConversionsBackwards, Cond.code yX4_countConversionsBackwards cX4_countConversionsBackwards 4 none, Cond.methodLink RX4 122 yX4_leadingOn, Cond.instanceMethod yX4_leadingOn, Cond.selects RX4 yX4_leadingOn yX4_leadingOn, Cond.code yX4_leadingOn cX4_leadingOn 4 (some .int), Cond.methodLink RX4 109 yX3_start, Cond.instanceMethod yX3_start, Cond.selects RX3 yX3_start yX3_start, Cond.initialized RX3, Cond.code yX3_start cX3_start 3 none, Cond.fieldLink RX3 7 "Opticmesh$Way" "count" "I", Cond.fieldLink RX3 13 "Opticmesh$Way" "length" "I", Cond.fieldLink RX3 16 "Opticmesh$Way" "conversions" "I", Cond.fieldLink RX3 19 "Opticmesh$Way" "fibres" "I", Cond.fieldLink RX3 22 "Opticmesh$Way" "channelBytes" "J", Cond.methodLink RX4 112 yX4_takeLowestWavelengths, Cond.instanceMethod yX4_takeLowestWavelengths, Cond.selects RX4 yX4_takeLowestWavelengths yX4_takeLowestWavelengths]
def wsX4_findPair_r3 : List Cond := [Cond.code yX4_takeLowestWavelengths cX4_takeLowestWavelengths 10 none, Cond.static yX5_lowestIn, Cond.initialized RX5, Cond.code yX5_lowestIn cX5_lowestIn 2 (some .int), Cond.methodLink RX4 119 yX3_append, Cond.instanceMethod yX3_append, Cond.selects RX3 yX3_append yX3_append, Cond.code yX3_append cX3_append 3 none, Cond.methodLink RX4 97 yX2_acrossFrom, Cond.instanceMethod yX2_acrossFrom, Cond.selects RX2 yX2_acrossFrom yX2_acrossFrom, Cond.initialized RX2, Cond.code yX2_acrossFrom cX2_acrossFrom 3 (some .int), Cond.fieldLink RX2 18 "Opticmesh$Network" "ones" "[I", Cond.fieldLink RX2 22 "Opticmesh$Network" "others" "[I", Cond.methodLink RX2 37 yX2_hasFibre, Cond.instanceMethod yX2_hasFibre, Cond.selects RX2 yX2_hasFibre yX2_hasFibre, Cond.code yX2_hasFibre cX2_hasFibre 2 (some .boolean), Cond.fieldLink RX2 28 "Opticmesh$Network" "fibreCount" "I", Cond.methodLink RX4 101 yX2_lengthOf, Cond.instanceMethod yX2_lengthOf, Cond.selects RX2 yX2_lengthOf yX2_lengthOf, Cond.code yX2_lengthOf cX2_lengthOf 2 (some .int)]
def wsX4_findPair_r4 : List Cond := [Cond.fieldLink RX2 25 "Opticmesh$Network" "lengths" "[I", Cond.methodLink RX4 71 yX4_offerPair, Cond.instanceMethod yX4_offerPair, Cond.selects RX4 yX4_offerPair yX4_offerPair, Cond.code yX4_offerPair cX4_offerPair 6 none, Cond.methodLink RX4 75 yX3_isAheadOf, Cond.instanceMethod yX3_isAheadOf, Cond.selects RX3 yX3_isAheadOf yX3_isAheadOf, Cond.code yX3_isAheadOf cX3_isAheadOf 2 (some .boolean), Cond.methodLink RX4 79 yX4_isPairAhead, Cond.static yX4_isPairAhead, Cond.code yX4_isPairAhead cX4_isPairAhead 5 (some .boolean), Cond.fieldLink RX4 83 "Opticmesh$Way" "length" "I"]
def wsX4_findPair : List Cond := .code yX4_findPair cX4_findPair 5 none :: ((wsX4_findPair_r1 ++ (wsX4_findPair_r2 ++ (wsX4_findPair_r3 ++ wsX4_findPair_r4))) ++ wsX40 ++ wsX30 ++ wsX20)
def wsX5_init_r1 : List Cond := [Cond.methodLink RX5 3 objectInit, Cond.instanceMethod objectInit, Cond.code objectInit ⟨#[0xb1]⟩ 1 none, Cond.classLink RX5 9 RX2, Cond.instantiable RX2 8, Cond.initialized RX2, Cond.fieldLink RX5 12 "Opticmesh" "network" "LOpticmesh$Network;", Cond.classLink RX5 16 RX4, Cond.instantiable RX4 13, Cond.initialized RX4, Cond.fieldLink RX5 21 "Opticmesh" "finder" "LOpticmesh$WayFinder;", Cond.classLink RX5 25 RX0, Cond.instantiable RX0 3, Cond.initialized RX0, Cond.fieldLink RX5 28 "Opticmesh" "colouring" "LOpticmesh$Colouring;", Cond.classLink RX5 32 RX1, Cond.fieldLink RX5 34 "Opticmesh" "lightList" "[LOpticmesh$Light;", Cond.instantiable RX1 7, Cond.initialized RX1, Cond.fieldLink RX5 41 "Opticmesh" "carriers" "[LOpticmesh$Light;", Cond.arrayClass .int, Cond.fieldLink RX5 44 "Opticmesh" "demands" "[I", Cond.instanceMethod yX2_init, Cond.code yX2_init cX2_init 1 none]
def wsX5_init_r2 : List Cond := [Cond.methodLink RX2 3 objectInit, Cond.fieldLink RX2 9 "Opticmesh$Network" "nodeCount" "I", Cond.fieldLink RX2 15 "Opticmesh$Network" "wavelengthCount" "I", Cond.fieldLink RX2 18 "Opticmesh$Network" "ones" "[I", Cond.fieldLink RX2 22 "Opticmesh$Network" "others" "[I", Cond.fieldLink RX2 25 "Opticmesh$Network" "lengths" "[I", Cond.methodLink RX5 18 yX4_init, Cond.instanceMethod yX4_init, Cond.code yX4_init cX4_init 3 none, Cond.methodLink RX4 3 objectInit, Cond.fieldLink RX4 9 "Opticmesh$WayFinder" "open" "[I", Cond.fieldLink RX4 15 "Opticmesh$WayFinder" "trail" "[I", Cond.fieldLink RX4 18 "Opticmesh$WayFinder" "openOnTrail" "[I", Cond.arrayClass .boolean, Cond.fieldLink RX4 21 "Opticmesh$WayFinder" "convertsBefore" "[Z", Cond.classLink RX4 25 "[[I", Cond.fieldLink RX4 27 "Opticmesh$WayFinder" "within" "[[I", Cond.classLink RX4 30 RX3, Cond.fieldLink RX4 32 "Opticmesh$WayFinder" "kept" "[LOpticmesh$Way;", Cond.fieldLink RX4 36 "Opticmesh$WayFinder" "network" "LOpticmesh$Network;", Cond.instantiable RX3 5, Cond.initialized RX3, Cond.instanceMethod yX3_init, Cond.code yX3_init cX3_init 1 none]
def wsX5_init_r3 : List Cond := [Cond.methodLink RX3 1 objectInit, Cond.instanceMethod yX0_init, Cond.code yX0_init cX0_init 1 none, Cond.methodLink RX0 3 objectInit, Cond.fieldLink RX0 9 "Opticmesh$Colouring" "fibres" "[I", Cond.fieldLink RX0 15 "Opticmesh$Colouring" "fibresTaken" "[I", Cond.methodLink RX5 38 yX1_init, Cond.instanceMethod yX1_init, Cond.code yX1_init cX1_init 2 none, Cond.methodLink RX1 1 objectInit, Cond.classLink RX1 7 RX3, Cond.fieldLink RX1 10 "Opticmesh$Light" "first" "LOpticmesh$Way;", Cond.fieldLink RX1 16 "Opticmesh$Light" "second" "LOpticmesh$Way;", Cond.fieldLink RX1 19 "Opticmesh$Light" "number" "I"]
def wsX5_init : List Cond := .code yX5_init cX5_init 3 none :: ((wsX5_init_r1 ++ (wsX5_init_r2 ++ wsX5_init_r3)) ++ wsX20 ++ wsX50 ++ wsX40 ++ wsX00 ++ wsX10 ++ wsX30)
def wsX5_begin : List Cond := .code yX5_begin cX5_begin 3 none :: ([.classLink RX5 48 "java/lang/IllegalArgumentException", .initialized "java/lang/IllegalArgumentException", .fieldLink RX5 12 "Opticmesh" "network" "LOpticmesh$Network;", .fieldLink RX5 59 "Opticmesh" "lightCount" "I", .fieldLink RX5 63 "Opticmesh" "requestCount" "I", .methodLink RX5 55 yX2_startAgain, .instanceMethod yX2_startAgain, .selects RX2 yX2_startAgain yX2_startAgain, .initialized RX2, .code yX2_startAgain cX2_startAgain 3 none, .fieldLink RX2 9 "Opticmesh$Network" "nodeCount" "I", .fieldLink RX2 15 "Opticmesh$Network" "wavelengthCount" "I", .fieldLink RX2 28 "Opticmesh$Network" "fibreCount" "I", .fieldLink RX2 31 "Opticmesh$Network" "converters" "I", .fieldLink RX2 34 "Opticmesh$Network" "cutFibres" "I"] ++ wsX50 ++ wsX20 ++ (vx_atS RX5 52 "java/lang/IllegalArgumentException" ["java/lang/RuntimeException", "java/lang/Exception"]).filter goodWord)
def wsX5_areTwoNodes : List Cond := .code yX5_areTwoNodes cX5_areTwoNodes 3 (some .boolean) :: ([.fieldLink RX5 12 "Opticmesh" "network" "LOpticmesh$Network;", .methodLink RX5 81 yX2_hasNode, .instanceMethod yX2_hasNode, .selects RX2 yX2_hasNode yX2_hasNode, .initialized RX2, .code yX2_hasNode cX2_hasNode 2 (some .boolean), .fieldLink RX2 9 "Opticmesh$Network" "nodeCount" "I"] ++ wsX50 ++ wsX20)
def wsX5_addFibre : List Cond := .code yX5_addFibre cX5_addFibre 5 (some .int) :: ([.classLink RX5 48 "java/lang/IllegalArgumentException", .initialized "java/lang/IllegalArgumentException", .classLink RX5 76 "java/lang/IllegalStateException", .initialized "java/lang/IllegalStateException", .fieldLink RX5 12 "Opticmesh" "network" "LOpticmesh$Network;", .methodLink RX5 66 yX5_areTwoNodes, .instanceMethod yX5_areTwoNodes, .selects RX5 yX5_areTwoNodes yX5_areTwoNodes, .initialized RX5, .code yX5_areTwoNodes cX5_areTwoNodes 3 (some .boolean), .methodLink RX5 81 yX2_hasNode, .instanceMethod yX2_hasNode, .selects RX2 yX2_hasNode yX2_hasNode, .initialized RX2, .code yX2_hasNode cX2_hasNode 2 (some .boolean), .fieldLink RX2 9 "Opticmesh$Network" "nodeCount" "I", .methodLink RX5 72 yX2_join, .instanceMethod yX2_join, .selects RX2 yX2_join yX2_join, .code yX2_join cX2_join 5 (some .int), .fieldLink RX2 28 "Opticmesh$Network" "fibreCount" "I", .fieldLink RX2 18 "Opticmesh$Network" "ones" "[I", .fieldLink RX2 22 "Opticmesh$Network" "others" "[I", .fieldLink RX2 25 "Opticmesh$Network" "lengths" "[I"] ++ wsX50 ++ wsX20 ++ (vx_atS RX5 52 "java/lang/IllegalArgumentException" ["java/lang/RuntimeException", "java/lang/Exception"]).filter goodWord ++ (vx_atS RX5 80 "java/lang/IllegalStateException" ["java/lang/RuntimeException", "java/lang/Exception"]).filter goodWord)
def wsX5_toggleConverter : List Cond := .code yX5_toggleConverter cX5_toggleConverter 2 (some .boolean) :: ([.classLink RX5 48 "java/lang/IllegalArgumentException", .initialized "java/lang/IllegalArgumentException", .fieldLink RX5 12 "Opticmesh" "network" "LOpticmesh$Network;", .fieldLink RX5 87 "Opticmesh$Network" "converters" "I", .methodLink RX5 81 yX2_hasNode, .instanceMethod yX2_hasNode, .selects RX2 yX2_hasNode yX2_hasNode, .initialized RX2, .code yX2_hasNode cX2_hasNode 2 (some .boolean), .fieldLink RX2 9 "Opticmesh$Network" "nodeCount" "I"] ++ wsX50 ++ wsX20 ++ (vx_atS RX5 52 "java/lang/IllegalArgumentException" ["java/lang/RuntimeException", "java/lang/Exception"]).filter goodWord)
def wsX5_requireFibre : List Cond := .code yX5_requireFibre cX5_requireFibre 2 none :: ([.classLink RX5 198 "java/lang/IndexOutOfBoundsException", .initialized "java/lang/IndexOutOfBoundsException", .fieldLink RX5 12 "Opticmesh" "network" "LOpticmesh$Network;", .methodLink RX5 264 yX2_hasFibre, .instanceMethod yX2_hasFibre, .selects RX2 yX2_hasFibre yX2_hasFibre, .initialized RX2, .code yX2_hasFibre cX2_hasFibre 2 (some .boolean), .fieldLink RX2 28 "Opticmesh$Network" "fibreCount" "I"] ++ wsX50 ++ wsX20 ++ (vx_atS RX5 202 "java/lang/IndexOutOfBoundsException" ["java/lang/RuntimeException", "java/lang/Exception"]).filter goodWord)
def wsX5_lightsUp : List Cond := .code yX5_lightsUp cX5_lightsUp 3 (some .int) :: ([.fieldLink RX5 59 "Opticmesh" "lightCount" "I", .fieldLink RX5 34 "Opticmesh" "lightList" "[LOpticmesh$Light;", .fieldLink RX5 12 "Opticmesh" "network" "LOpticmesh$Network;", .fieldLink RX5 102 "Opticmesh$Network" "cutFibres" "I", .methodLink RX5 188 yX1_isUp, .instanceMethod yX1_isUp, .selects RX1 yX1_isUp yX1_isUp, .initialized RX1, .code yX1_isUp cX1_isUp 2 (some .boolean), .fieldLink RX1 10 "Opticmesh$Light" "first" "LOpticmesh$Way;", .fieldLink RX1 44 "Opticmesh$Way" "fibres" "I", .fieldLink RX1 36 "Opticmesh$Light" "isProtected" "Z", .fieldLink RX1 16 "Opticmesh$Light" "second" "LOpticmesh$Way;", .methodLink RX1 40 yX1_isGone, .instanceMethod yX1_isGone, .selects RX1 yX1_isGone yX1_isGone, .code yX1_isGone cX1_isGone 1 (some .boolean), .fieldLink RX1 29 "Opticmesh$Light" "units" "I"] ++ wsX50 ++ wsX20 ++ wsX10 ++ wsX30)
def wsX5_cut_r1 : List Cond := [Cond.classLink RX5 76 "java/lang/IllegalStateException", Cond.initialized "java/lang/IllegalStateException", Cond.fieldLink RX5 12 "Opticmesh" "network" "LOpticmesh$Network;", Cond.fieldLink RX5 102 "Opticmesh$Network" "cutFibres" "I", Cond.methodLink RX5 90 yX5_requireFibre, Cond.instanceMethod yX5_requireFibre, Cond.selects RX5 yX5_requireFibre yX5_requireFibre, Cond.initialized RX5, Cond.code yX5_requireFibre cX5_requireFibre 2 none, Cond.classLink RX5 198 "java/lang/IndexOutOfBoundsException", Cond.initialized "java/lang/IndexOutOfBoundsException", Cond.methodLink RX5 264 yX2_hasFibre, Cond.instanceMethod yX2_hasFibre, Cond.selects RX2 yX2_hasFibre yX2_hasFibre, Cond.initialized RX2, Cond.code yX2_hasFibre cX2_hasFibre 2 (some .boolean), Cond.fieldLink RX2 28 "Opticmesh$Network" "fibreCount" "I", Cond.methodLink RX5 93 yX2_isCut, Cond.instanceMethod yX2_isCut, Cond.selects RX2 yX2_isCut yX2_isCut, Cond.code yX2_isCut cX2_isCut 2 (some .boolean), Cond.fieldLink RX2 34 "Opticmesh$Network" "cutFibres" "I", Cond.methodLink RX5 98 yX5_lightsUp, Cond.instanceMethod yX5_lightsUp]
def wsX5_cut_r2 : List Cond := [Cond.selects RX5 yX5_lightsUp yX5_lightsUp, Cond.code yX5_lightsUp cX5_lightsUp 3 (some .int), Cond.fieldLink RX5 59 "Opticmesh" "lightCount" "I", Cond.fieldLink RX5 34 "Opticmesh" "lightList" "[LOpticmesh$Light;", Cond.methodLink RX5 188 yX1_isUp, Cond.instanceMethod yX1_isUp, Cond.selects RX1 yX1_isUp yX1_isUp, Cond.initialized RX1, Cond.code yX1_isUp cX1_isUp 2 (some .boolean), Cond.fieldLink RX1 10 "Opticmesh$Light" "first" "LOpticmesh$Way;", Cond.fieldLink RX1 44 "Opticmesh$Way" "fibres" "I", Cond.fieldLink RX1 36 "Opticmesh$Light" "isProtected" "Z", Cond.fieldLink RX1 16 "Opticmesh$Light" "second" "LOpticmesh$Way;", Cond.methodLink RX1 40 yX1_isGone, Cond.instanceMethod yX1_isGone, Cond.selects RX1 yX1_isGone yX1_isGone, Cond.code yX1_isGone cX1_isGone 1 (some .boolean), Cond.fieldLink RX1 29 "Opticmesh$Light" "units" "I"]
def wsX5_cut : List Cond := .code yX5_cut cX5_cut 3 (some .int) :: ((wsX5_cut_r1 ++ wsX5_cut_r2) ++ wsX50 ++ wsX20 ++ wsX10 ++ wsX30 ++ (vx_atS RX5 80 "java/lang/IllegalStateException" ["java/lang/RuntimeException", "java/lang/Exception"]).filter goodWord ++ (vx_atS RX5 202 "java/lang/IndexOutOfBoundsException" ["java/lang/RuntimeException", "java/lang/Exception"]).filter goodWord)
def wsX5_repair_r1 : List Cond := [Cond.classLink RX5 76 "java/lang/IllegalStateException", Cond.initialized "java/lang/IllegalStateException", Cond.fieldLink RX5 12 "Opticmesh" "network" "LOpticmesh$Network;", Cond.fieldLink RX5 102 "Opticmesh$Network" "cutFibres" "I", Cond.methodLink RX5 90 yX5_requireFibre, Cond.instanceMethod yX5_requireFibre, Cond.selects RX5 yX5_requireFibre yX5_requireFibre, Cond.initialized RX5, Cond.code yX5_requireFibre cX5_requireFibre 2 none, Cond.classLink RX5 198 "java/lang/IndexOutOfBoundsException", Cond.initialized "java/lang/IndexOutOfBoundsException", Cond.methodLink RX5 264 yX2_hasFibre, Cond.instanceMethod yX2_hasFibre, Cond.selects RX2 yX2_hasFibre yX2_hasFibre, Cond.initialized RX2, Cond.code yX2_hasFibre cX2_hasFibre 2 (some .boolean), Cond.fieldLink RX2 28 "Opticmesh$Network" "fibreCount" "I", Cond.methodLink RX5 93 yX2_isCut, Cond.instanceMethod yX2_isCut, Cond.selects RX2 yX2_isCut yX2_isCut, Cond.code yX2_isCut cX2_isCut 2 (some .boolean), Cond.fieldLink RX2 34 "Opticmesh$Network" "cutFibres" "I", Cond.methodLink RX5 98 yX5_lightsUp, Cond.instanceMethod yX5_lightsUp]
def wsX5_repair_r2 : List Cond := [Cond.selects RX5 yX5_lightsUp yX5_lightsUp, Cond.code yX5_lightsUp cX5_lightsUp 3 (some .int), Cond.fieldLink RX5 59 "Opticmesh" "lightCount" "I", Cond.fieldLink RX5 34 "Opticmesh" "lightList" "[LOpticmesh$Light;", Cond.methodLink RX5 188 yX1_isUp, Cond.instanceMethod yX1_isUp, Cond.selects RX1 yX1_isUp yX1_isUp, Cond.initialized RX1, Cond.code yX1_isUp cX1_isUp 2 (some .boolean), Cond.fieldLink RX1 10 "Opticmesh$Light" "first" "LOpticmesh$Way;", Cond.fieldLink RX1 44 "Opticmesh$Way" "fibres" "I", Cond.fieldLink RX1 36 "Opticmesh$Light" "isProtected" "Z", Cond.fieldLink RX1 16 "Opticmesh$Light" "second" "LOpticmesh$Way;", Cond.methodLink RX1 40 yX1_isGone, Cond.instanceMethod yX1_isGone, Cond.selects RX1 yX1_isGone yX1_isGone, Cond.code yX1_isGone cX1_isGone 1 (some .boolean), Cond.fieldLink RX1 29 "Opticmesh$Light" "units" "I"]
def wsX5_repair : List Cond := .code yX5_repair cX5_repair 3 (some .int) :: ((wsX5_repair_r1 ++ wsX5_repair_r2) ++ wsX50 ++ wsX20 ++ wsX10 ++ wsX30 ++ (vx_atS RX5 80 "java/lang/IllegalStateException" ["java/lang/RuntimeException", "java/lang/Exception"]).filter goodWord ++ (vx_atS RX5 202 "java/lang/IndexOutOfBoundsException" ["java/lang/RuntimeException", "java/lang/Exception"]).filter goodWord)
def wsX5_lightOn_r1 : List Cond := [Cond.classLink RX5 48 "java/lang/IllegalArgumentException", Cond.initialized "java/lang/IllegalArgumentException", Cond.fieldLink RX5 12 "Opticmesh" "network" "LOpticmesh$Network;", Cond.fieldLink RX5 107 "Opticmesh$Network" "wavelengthCount" "I", Cond.fieldLink RX5 59 "Opticmesh" "lightCount" "I", Cond.fieldLink RX5 34 "Opticmesh" "lightList" "[LOpticmesh$Light;", Cond.methodLink RX5 90 yX5_requireFibre, Cond.instanceMethod yX5_requireFibre, Cond.selects RX5 yX5_requireFibre yX5_requireFibre, Cond.initialized RX5, Cond.code yX5_requireFibre cX5_requireFibre 2 none, Cond.classLink RX5 198 "java/lang/IndexOutOfBoundsException", Cond.initialized "java/lang/IndexOutOfBoundsException", Cond.methodLink RX5 264 yX2_hasFibre, Cond.instanceMethod yX2_hasFibre, Cond.selects RX2 yX2_hasFibre yX2_hasFibre, Cond.initialized RX2, Cond.code yX2_hasFibre cX2_hasFibre 2 (some .boolean), Cond.fieldLink RX2 28 "Opticmesh$Network" "fibreCount" "I", Cond.methodLink RX5 112 yX1_wavelengthsOn, Cond.instanceMethod yX1_wavelengthsOn, Cond.selects RX1 yX1_wavelengthsOn yX1_wavelengthsOn, Cond.initialized RX1, Cond.code yX1_wavelengthsOn cX1_wavelengthsOn 3 (some .int)]
def wsX5_lightOn_r2 : List Cond := [Cond.fieldLink RX1 10 "Opticmesh$Light" "first" "LOpticmesh$Way;", Cond.fieldLink RX1 36 "Opticmesh$Light" "isProtected" "Z", Cond.fieldLink RX1 16 "Opticmesh$Light" "second" "LOpticmesh$Way;", Cond.methodLink RX1 40 yX1_isGone, Cond.instanceMethod yX1_isGone, Cond.selects RX1 yX1_isGone yX1_isGone, Cond.code yX1_isGone cX1_isGone 1 (some .boolean), Cond.fieldLink RX1 29 "Opticmesh$Light" "units" "I", Cond.methodLink RX1 47 yX3_wavelengthsOn, Cond.instanceMethod yX3_wavelengthsOn, Cond.selects RX3 yX3_wavelengthsOn yX3_wavelengthsOn, Cond.initialized RX3, Cond.code yX3_wavelengthsOn cX3_wavelengthsOn 5 (some .int), Cond.fieldLink RX3 7 "Opticmesh$Way" "count" "I", Cond.methodLink RX3 30 yX3_uses, Cond.instanceMethod yX3_uses, Cond.selects RX3 yX3_uses yX3_uses, Cond.code yX3_uses cX3_uses 2 (some .boolean), Cond.fieldLink RX3 19 "Opticmesh$Way" "fibres" "I", Cond.methodLink RX3 26 yX3_channelAt, Cond.instanceMethod yX3_channelAt, Cond.selects RX3 yX3_channelAt yX3_channelAt, Cond.code yX3_channelAt cX3_channelAt 2 (some .int), Cond.fieldLink RX3 22 "Opticmesh$Way" "channelBytes" "J"]
def wsX5_lightOn : List Cond := .code yX5_lightOn cX5_lightOn 4 (some .int) :: ((wsX5_lightOn_r1 ++ wsX5_lightOn_r2) ++ wsX50 ++ wsX20 ++ wsX10 ++ wsX30 ++ (vx_atS RX5 52 "java/lang/IllegalArgumentException" ["java/lang/RuntimeException", "java/lang/Exception"]).filter goodWord ++ (vx_atS RX5 202 "java/lang/IndexOutOfBoundsException" ["java/lang/RuntimeException", "java/lang/Exception"]).filter goodWord)
def wsX5_wavelengthsUsed_r1 : List Cond := [Cond.fieldLink RX5 59 "Opticmesh" "lightCount" "I", Cond.fieldLink RX5 34 "Opticmesh" "lightList" "[LOpticmesh$Light;", Cond.methodLink RX5 112 yX1_wavelengthsOn, Cond.instanceMethod yX1_wavelengthsOn, Cond.selects RX1 yX1_wavelengthsOn yX1_wavelengthsOn, Cond.initialized RX1, Cond.code yX1_wavelengthsOn cX1_wavelengthsOn 3 (some .int), Cond.fieldLink RX1 10 "Opticmesh$Light" "first" "LOpticmesh$Way;", Cond.fieldLink RX1 36 "Opticmesh$Light" "isProtected" "Z", Cond.fieldLink RX1 16 "Opticmesh$Light" "second" "LOpticmesh$Way;", Cond.methodLink RX1 40 yX1_isGone, Cond.instanceMethod yX1_isGone, Cond.selects RX1 yX1_isGone yX1_isGone, Cond.code yX1_isGone cX1_isGone 1 (some .boolean), Cond.fieldLink RX1 29 "Opticmesh$Light" "units" "I", Cond.methodLink RX1 47 yX3_wavelengthsOn, Cond.instanceMethod yX3_wavelengthsOn, Cond.selects RX3 yX3_wavelengthsOn yX3_wavelengthsOn, Cond.initialized RX3, Cond.code yX3_wavelengthsOn cX3_wavelengthsOn 5 (some .int), Cond.fieldLink RX3 7 "Opticmesh$Way" "count" "I", Cond.methodLink RX3 30 yX3_uses, Cond.instanceMethod yX3_uses, Cond.selects RX3 yX3_uses yX3_uses]
def wsX5_wavelengthsUsed_r2 : List Cond := [Cond.code yX3_uses cX3_uses 2 (some .boolean), Cond.fieldLink RX3 19 "Opticmesh$Way" "fibres" "I", Cond.methodLink RX3 26 yX3_channelAt, Cond.instanceMethod yX3_channelAt, Cond.selects RX3 yX3_channelAt yX3_channelAt, Cond.code yX3_channelAt cX3_channelAt 2 (some .int), Cond.fieldLink RX3 22 "Opticmesh$Way" "channelBytes" "J"]
def wsX5_wavelengthsUsed : List Cond := .code yX5_wavelengthsUsed cX5_wavelengthsUsed 5 (some .int) :: ((wsX5_wavelengthsUsed_r1 ++ wsX5_wavelengthsUsed_r2) ++ wsX50 ++ wsX10 ++ wsX30)
def wsJ6_bitCount_0f7a4 : List Cond := .code yJ6_bitCount_0f7a4 cJ6_bitCount_0f7a4 1 (some .int) :: ([.constant RJ6 265 (1431655765), .constant RJ6 266 (858993459), .constant RJ6 267 (252645135)])
def wsX5_load_r1 : List Cond := [Cond.fieldLink RX5 12 "Opticmesh" "network" "LOpticmesh$Network;", Cond.fieldLink RX5 116 "Opticmesh$Network" "fibreCount" "I", Cond.methodLink RX5 128 Lib.Math.max.name, Cond.static Lib.Math.max.name, Cond.initialized "java/lang/Math", Cond.code Lib.Math.max.name Lib.Math.max.code 2 (some .int), Cond.methodLink RX5 119 yX5_wavelengthsUsed, Cond.instanceMethod yX5_wavelengthsUsed, Cond.selects RX5 yX5_wavelengthsUsed yX5_wavelengthsUsed, Cond.initialized RX5, Cond.code yX5_wavelengthsUsed cX5_wavelengthsUsed 5 (some .int), Cond.fieldLink RX5 59 "Opticmesh" "lightCount" "I", Cond.fieldLink RX5 34 "Opticmesh" "lightList" "[LOpticmesh$Light;", Cond.methodLink RX5 112 yX1_wavelengthsOn, Cond.instanceMethod yX1_wavelengthsOn, Cond.selects RX1 yX1_wavelengthsOn yX1_wavelengthsOn, Cond.initialized RX1, Cond.code yX1_wavelengthsOn cX1_wavelengthsOn 3 (some .int), Cond.fieldLink RX1 10 "Opticmesh$Light" "first" "LOpticmesh$Way;", Cond.fieldLink RX1 36 "Opticmesh$Light" "isProtected" "Z", Cond.fieldLink RX1 16 "Opticmesh$Light" "second" "LOpticmesh$Way;", Cond.methodLink RX1 40 yX1_isGone, Cond.instanceMethod yX1_isGone, Cond.selects RX1 yX1_isGone yX1_isGone]
def wsX5_load_r2 : List Cond := [Cond.code yX1_isGone cX1_isGone 1 (some .boolean), Cond.fieldLink RX1 29 "Opticmesh$Light" "units" "I", Cond.methodLink RX1 47 yX3_wavelengthsOn, Cond.instanceMethod yX3_wavelengthsOn, Cond.selects RX3 yX3_wavelengthsOn yX3_wavelengthsOn, Cond.initialized RX3, Cond.code yX3_wavelengthsOn cX3_wavelengthsOn 5 (some .int), Cond.fieldLink RX3 7 "Opticmesh$Way" "count" "I", Cond.methodLink RX3 30 yX3_uses, Cond.instanceMethod yX3_uses, Cond.selects RX3 yX3_uses yX3_uses, Cond.code yX3_uses cX3_uses 2 (some .boolean), Cond.fieldLink RX3 19 "Opticmesh$Way" "fibres" "I", Cond.methodLink RX3 26 yX3_channelAt, Cond.instanceMethod yX3_channelAt, Cond.selects RX3 yX3_channelAt yX3_channelAt, Cond.code yX3_channelAt cX3_channelAt 2 (some .int), Cond.fieldLink RX3 22 "Opticmesh$Way" "channelBytes" "J", Cond.methodLink RX5 123 yJ6_bitCount_0f7a4, Cond.static yJ6_bitCount_0f7a4, Cond.initialized RJ6, Cond.code yJ6_bitCount_0f7a4 cJ6_bitCount_0f7a4 1 (some .int), Cond.constant RJ6 265 (1431655765), Cond.constant RJ6 266 (858993459)]
def wsX5_load_r3 : List Cond := [Cond.constant RJ6 267 (252645135)]
def wsX5_load : List Cond := .code yX5_load cX5_load 3 (some .int) :: ((wsX5_load_r1 ++ (wsX5_load_r2 ++ wsX5_load_r3)) ++ wsX50 ++ wsX20 ++ wsX10 ++ wsX30)
def wsX5_usage_r1 : List Cond := [Cond.classLink RX5 76 "java/lang/IllegalStateException", Cond.initialized "java/lang/IllegalStateException", Cond.fieldLink RX5 12 "Opticmesh" "network" "LOpticmesh$Network;", Cond.fieldLink RX5 116 "Opticmesh$Network" "fibreCount" "I", Cond.fieldLink RX5 107 "Opticmesh$Network" "wavelengthCount" "I", Cond.methodLink RX5 119 yX5_wavelengthsUsed, Cond.instanceMethod yX5_wavelengthsUsed, Cond.selects RX5 yX5_wavelengthsUsed yX5_wavelengthsUsed, Cond.initialized RX5, Cond.code yX5_wavelengthsUsed cX5_wavelengthsUsed 5 (some .int), Cond.fieldLink RX5 59 "Opticmesh" "lightCount" "I", Cond.fieldLink RX5 34 "Opticmesh" "lightList" "[LOpticmesh$Light;", Cond.methodLink RX5 112 yX1_wavelengthsOn, Cond.instanceMethod yX1_wavelengthsOn, Cond.selects RX1 yX1_wavelengthsOn yX1_wavelengthsOn, Cond.initialized RX1, Cond.code yX1_wavelengthsOn cX1_wavelengthsOn 3 (some .int), Cond.fieldLink RX1 10 "Opticmesh$Light" "first" "LOpticmesh$Way;", Cond.fieldLink RX1 36 "Opticmesh$Light" "isProtected" "Z", Cond.fieldLink RX1 16 "Opticmesh$Light" "second" "LOpticmesh$Way;", Cond.methodLink RX1 40 yX1_isGone, Cond.instanceMethod yX1_isGone, Cond.selects RX1 yX1_isGone yX1_isGone, Cond.code yX1_isGone cX1_isGone 1 (some .boolean)]
def wsX5_usage_r2 : List Cond := [Cond.fieldLink RX1 29 "Opticmesh$Light" "units" "I", Cond.methodLink RX1 47 yX3_wavelengthsOn, Cond.instanceMethod yX3_wavelengthsOn, Cond.selects RX3 yX3_wavelengthsOn yX3_wavelengthsOn, Cond.initialized RX3, Cond.code yX3_wavelengthsOn cX3_wavelengthsOn 5 (some .int), Cond.fieldLink RX3 7 "Opticmesh$Way" "count" "I", Cond.methodLink RX3 30 yX3_uses, Cond.instanceMethod yX3_uses, Cond.selects RX3 yX3_uses yX3_uses, Cond.code yX3_uses cX3_uses 2 (some .boolean), Cond.fieldLink RX3 19 "Opticmesh$Way" "fibres" "I", Cond.methodLink RX3 26 yX3_channelAt, Cond.instanceMethod yX3_channelAt, Cond.selects RX3 yX3_channelAt yX3_channelAt, Cond.code yX3_channelAt cX3_channelAt 2 (some .int), Cond.fieldLink RX3 22 "Opticmesh$Way" "channelBytes" "J", Cond.methodLink RX5 123 yJ6_bitCount_0f7a4, Cond.static yJ6_bitCount_0f7a4, Cond.initialized RJ6, Cond.code yJ6_bitCount_0f7a4 cJ6_bitCount_0f7a4 1 (some .int), Cond.constant RJ6 265 (1431655765), Cond.constant RJ6 266 (858993459), Cond.constant RJ6 267 (252645135)]
def wsX5_usage : List Cond := .code yX5_usage cX5_usage 4 (some .float) :: ((wsX5_usage_r1 ++ wsX5_usage_r2) ++ wsX50 ++ wsX20 ++ wsX10 ++ wsX30 ++ (vx_atS RX5 80 "java/lang/IllegalStateException" ["java/lang/RuntimeException", "java/lang/Exception"]).filter goodWord)
def wsX5_isRule : List Cond := .code yX5_isRule cX5_isRule 1 (some .boolean) :: ([])
def wsX5_lightWithRoom_r1 : List Cond := [Cond.fieldLink RX5 59 "Opticmesh" "lightCount" "I", Cond.fieldLink RX5 34 "Opticmesh" "lightList" "[LOpticmesh$Light;", Cond.fieldLink RX5 12 "Opticmesh" "network" "LOpticmesh$Network;", Cond.fieldLink RX5 102 "Opticmesh$Network" "cutFibres" "I", Cond.fieldLink RX5 206 "Opticmesh$Light" "isProtected" "Z", Cond.fieldLink RX5 155 "Opticmesh$Light" "units" "I", Cond.methodLink RX5 188 yX1_isUp, Cond.instanceMethod yX1_isUp, Cond.selects RX1 yX1_isUp yX1_isUp, Cond.initialized RX1, Cond.code yX1_isUp cX1_isUp 2 (some .boolean), Cond.fieldLink RX1 10 "Opticmesh$Light" "first" "LOpticmesh$Way;", Cond.fieldLink RX1 44 "Opticmesh$Way" "fibres" "I", Cond.fieldLink RX1 36 "Opticmesh$Light" "isProtected" "Z", Cond.fieldLink RX1 16 "Opticmesh$Light" "second" "LOpticmesh$Way;", Cond.methodLink RX1 40 yX1_isGone, Cond.instanceMethod yX1_isGone, Cond.selects RX1 yX1_isGone yX1_isGone, Cond.code yX1_isGone cX1_isGone 1 (some .boolean), Cond.fieldLink RX1 29 "Opticmesh$Light" "units" "I", Cond.methodLink RX5 277 yX1_joins, Cond.instanceMethod yX1_joins, Cond.selects RX1 yX1_joins yX1_joins, Cond.code yX1_joins cX1_joins 3 (some .boolean)]
def wsX5_lightWithRoom_r2 : List Cond := [Cond.fieldLink RX1 23 "Opticmesh$Light" "from" "I", Cond.fieldLink RX1 26 "Opticmesh$Light" "to" "I"]
def wsX5_lightWithRoom : List Cond := .code yX5_lightWithRoom cX5_lightWithRoom 7 (some (.object "Opticmesh$Light")) :: ((wsX5_lightWithRoom_r1 ++ wsX5_lightWithRoom_r2) ++ wsX50 ++ wsX20 ++ wsX10 ++ wsX30)
def wsX5_openChannels_r1 : List Cond := [Cond.fieldLink RX5 12 "Opticmesh" "network" "LOpticmesh$Network;", Cond.fieldLink RX5 107 "Opticmesh$Network" "wavelengthCount" "I", Cond.fieldLink RX5 21 "Opticmesh" "finder" "LOpticmesh$WayFinder;", Cond.fieldLink RX5 295 "Opticmesh$WayFinder" "open" "[I", Cond.methodLink RX5 264 yX2_hasFibre, Cond.instanceMethod yX2_hasFibre, Cond.selects RX2 yX2_hasFibre yX2_hasFibre, Cond.initialized RX2, Cond.code yX2_hasFibre cX2_hasFibre 2 (some .boolean), Cond.fieldLink RX2 28 "Opticmesh$Network" "fibreCount" "I", Cond.methodLink RX5 93 yX2_isCut, Cond.instanceMethod yX2_isCut, Cond.selects RX2 yX2_isCut yX2_isCut, Cond.code yX2_isCut cX2_isCut 2 (some .boolean), Cond.fieldLink RX2 34 "Opticmesh$Network" "cutFibres" "I", Cond.methodLink RX5 119 yX5_wavelengthsUsed, Cond.instanceMethod yX5_wavelengthsUsed, Cond.selects RX5 yX5_wavelengthsUsed yX5_wavelengthsUsed, Cond.initialized RX5, Cond.code yX5_wavelengthsUsed cX5_wavelengthsUsed 5 (some .int), Cond.fieldLink RX5 59 "Opticmesh" "lightCount" "I", Cond.fieldLink RX5 34 "Opticmesh" "lightList" "[LOpticmesh$Light;", Cond.methodLink RX5 112 yX1_wavelengthsOn, Cond.instanceMethod yX1_wavelengthsOn]
def wsX5_openChannels_r2 : List Cond := [Cond.selects RX1 yX1_wavelengthsOn yX1_wavelengthsOn, Cond.initialized RX1, Cond.code yX1_wavelengthsOn cX1_wavelengthsOn 3 (some .int), Cond.fieldLink RX1 10 "Opticmesh$Light" "first" "LOpticmesh$Way;", Cond.fieldLink RX1 36 "Opticmesh$Light" "isProtected" "Z", Cond.fieldLink RX1 16 "Opticmesh$Light" "second" "LOpticmesh$Way;", Cond.methodLink RX1 40 yX1_isGone, Cond.instanceMethod yX1_isGone, Cond.selects RX1 yX1_isGone yX1_isGone, Cond.code yX1_isGone cX1_isGone 1 (some .boolean), Cond.fieldLink RX1 29 "Opticmesh$Light" "units" "I", Cond.methodLink RX1 47 yX3_wavelengthsOn, Cond.instanceMethod yX3_wavelengthsOn, Cond.selects RX3 yX3_wavelengthsOn yX3_wavelengthsOn, Cond.initialized RX3, Cond.code yX3_wavelengthsOn cX3_wavelengthsOn 5 (some .int), Cond.fieldLink RX3 7 "Opticmesh$Way" "count" "I", Cond.methodLink RX3 30 yX3_uses, Cond.instanceMethod yX3_uses, Cond.selects RX3 yX3_uses yX3_uses, Cond.code yX3_uses cX3_uses 2 (some .boolean), Cond.fieldLink RX3 19 "Opticmesh$Way" "fibres" "I", Cond.methodLink RX3 26 yX3_channelAt, Cond.instanceMethod yX3_channelAt]
def wsX5_openChannels_r3 : List Cond := [Cond.selects RX3 yX3_channelAt yX3_channelAt, Cond.code yX3_channelAt cX3_channelAt 2 (some .int), Cond.fieldLink RX3 22 "Opticmesh$Way" "channelBytes" "J"]
def wsX5_openChannels : List Cond := .code yX5_openChannels cX5_openChannels 5 none :: ((wsX5_openChannels_r1 ++ (wsX5_openChannels_r2 ++ wsX5_openChannels_r3)) ++ wsX50 ++ wsX20 ++ wsX40 ++ wsX10 ++ wsX30)
def wsX5_findWays_r1 : List Cond := [Cond.fieldLink RX5 21 "Opticmesh" "finder" "LOpticmesh$WayFinder;", Cond.methodLink RX5 212 yX5_openChannels, Cond.instanceMethod yX5_openChannels, Cond.selects RX5 yX5_openChannels yX5_openChannels, Cond.initialized RX5, Cond.code yX5_openChannels cX5_openChannels 5 none, Cond.fieldLink RX5 12 "Opticmesh" "network" "LOpticmesh$Network;", Cond.fieldLink RX5 107 "Opticmesh$Network" "wavelengthCount" "I", Cond.fieldLink RX5 295 "Opticmesh$WayFinder" "open" "[I", Cond.methodLink RX5 264 yX2_hasFibre, Cond.instanceMethod yX2_hasFibre, Cond.selects RX2 yX2_hasFibre yX2_hasFibre, Cond.initialized RX2, Cond.code yX2_hasFibre cX2_hasFibre 2 (some .boolean), Cond.fieldLink RX2 28 "Opticmesh$Network" "fibreCount" "I", Cond.methodLink RX5 93 yX2_isCut, Cond.instanceMethod yX2_isCut, Cond.selects RX2 yX2_isCut yX2_isCut, Cond.code yX2_isCut cX2_isCut 2 (some .boolean), Cond.fieldLink RX2 34 "Opticmesh$Network" "cutFibres" "I", Cond.methodLink RX5 119 yX5_wavelengthsUsed, Cond.instanceMethod yX5_wavelengthsUsed, Cond.selects RX5 yX5_wavelengthsUsed yX5_wavelengthsUsed, Cond.code yX5_wavelengthsUsed cX5_wavelengthsUsed 5 (some .int)]
def wsX5_findWays_r2 : List Cond := [Cond.fieldLink RX5 59 "Opticmesh" "lightCount" "I", Cond.fieldLink RX5 34 "Opticmesh" "lightList" "[LOpticmesh$Light;", Cond.methodLink RX5 112 yX1_wavelengthsOn, Cond.instanceMethod yX1_wavelengthsOn, Cond.selects RX1 yX1_wavelengthsOn yX1_wavelengthsOn, Cond.initialized RX1, Cond.code yX1_wavelengthsOn cX1_wavelengthsOn 3 (some .int), Cond.fieldLink RX1 10 "Opticmesh$Light" "first" "LOpticmesh$Way;", Cond.fieldLink RX1 36 "Opticmesh$Light" "isProtected" "Z", Cond.fieldLink RX1 16 "Opticmesh$Light" "second" "LOpticmesh$Way;", Cond.methodLink RX1 40 yX1_isGone, Cond.instanceMethod yX1_isGone, Cond.selects RX1 yX1_isGone yX1_isGone, Cond.code yX1_isGone cX1_isGone 1 (some .boolean), Cond.fieldLink RX1 29 "Opticmesh$Light" "units" "I", Cond.methodLink RX1 47 yX3_wavelengthsOn, Cond.instanceMethod yX3_wavelengthsOn, Cond.selects RX3 yX3_wavelengthsOn yX3_wavelengthsOn, Cond.initialized RX3, Cond.code yX3_wavelengthsOn cX3_wavelengthsOn 5 (some .int), Cond.fieldLink RX3 7 "Opticmesh$Way" "count" "I", Cond.methodLink RX3 30 yX3_uses, Cond.instanceMethod yX3_uses, Cond.selects RX3 yX3_uses yX3_uses]
def wsX5_findWays_r3 : List Cond := [Cond.code yX3_uses cX3_uses 2 (some .boolean), Cond.fieldLink RX3 19 "Opticmesh$Way" "fibres" "I", Cond.methodLink RX3 26 yX3_channelAt, Cond.instanceMethod yX3_channelAt, Cond.selects RX3 yX3_channelAt yX3_channelAt, Cond.code yX3_channelAt cX3_channelAt 2 (some .int), Cond.fieldLink RX3 22 "Opticmesh$Way" "channelBytes" "J", Cond.methodLink RX5 222 yX4_findFirst, Cond.instanceMethod yX4_findFirst, Cond.selects RX4 yX4_findFirst yX4_findFirst, Cond.initialized RX4, Cond.code yX4_findFirst cX4_findFirst 3 none, Cond.fieldLink RX4 36 "Opticmesh$WayFinder" "network" "LOpticmesh$Network;", Cond.fieldLink RX4 41 "Opticmesh$Network" "converters" "I", Cond.methodLink RX4 47 yX4_aim, Cond.instanceMethod yX4_aim, Cond.selects RX4 yX4_aim yX4_aim, Cond.code yX4_aim cX4_aim 4 none, Cond.fieldLink RX4 86 "Opticmesh$WayFinder" "target" "I", Cond.fieldLink RX4 89 "Opticmesh$WayFinder" "allowed" "I", Cond.fieldLink RX4 92 "Opticmesh$WayFinder" "converters" "I", Cond.fieldLink RX4 65 "Opticmesh$WayFinder" "keptCount" "I", Cond.methodLink RX4 51 yX4_walk, Cond.instanceMethod yX4_walk]
def wsX5_findWays_r4 : List Cond := [Cond.selects RX4 yX4_walk yX4_walk, Cond.code yX4_walk cX4_walk 11 none, Cond.fieldLink RX4 9 "Opticmesh$WayFinder" "open" "[I", Cond.fieldLink RX4 15 "Opticmesh$WayFinder" "trail" "[I", Cond.fieldLink RX4 18 "Opticmesh$WayFinder" "openOnTrail" "[I", Cond.fieldLink RX4 21 "Opticmesh$WayFinder" "convertsBefore" "[Z", Cond.methodLink RX4 93 yX4_keep, Cond.instanceMethod yX4_keep, Cond.selects RX4 yX4_keep yX4_keep, Cond.code yX4_keep cX4_keep 5 none, Cond.fieldLink RX4 27 "Opticmesh$WayFinder" "within" "[[I", Cond.fieldLink RX4 32 "Opticmesh$WayFinder" "kept" "[LOpticmesh$Way;", Cond.methodLink RX4 105 yX4_countConversionsBackwards, Cond.instanceMethod yX4_countConversionsBackwards, Cond.selects RX4 yX4_countConversionsBackwards yX4_countConversionsBackwards, Cond.code yX4_countConversionsBackwards cX4_countConversionsBackwards 4 none, Cond.methodLink RX4 122 yX4_leadingOn, Cond.instanceMethod yX4_leadingOn, Cond.selects RX4 yX4_leadingOn yX4_leadingOn, Cond.code yX4_leadingOn cX4_leadingOn 4 (some .int), Cond.methodLink RX4 109 yX3_start, Cond.instanceMethod yX3_start, Cond.selects RX3 yX3_start yX3_start, Cond.code yX3_start cX3_start 3 none]
def wsX5_findWays_r5 : List Cond := [Cond.fieldLink RX3 13 "Opticmesh$Way" "length" "I", Cond.fieldLink RX3 16 "Opticmesh$Way" "conversions" "I", Cond.methodLink RX4 112 yX4_takeLowestWavelengths, Cond.instanceMethod yX4_takeLowestWavelengths, Cond.selects RX4 yX4_takeLowestWavelengths yX4_takeLowestWavelengths, Cond.code yX4_takeLowestWavelengths cX4_takeLowestWavelengths 10 none, Cond.static yX5_lowestIn, Cond.code yX5_lowestIn cX5_lowestIn 2 (some .int), Cond.methodLink RX4 119 yX3_append, Cond.instanceMethod yX3_append, Cond.selects RX3 yX3_append yX3_append, Cond.code yX3_append cX3_append 3 none, Cond.methodLink RX4 97 yX2_acrossFrom, Cond.instanceMethod yX2_acrossFrom, Cond.selects RX2 yX2_acrossFrom yX2_acrossFrom, Cond.code yX2_acrossFrom cX2_acrossFrom 3 (some .int), Cond.fieldLink RX2 18 "Opticmesh$Network" "ones" "[I", Cond.fieldLink RX2 22 "Opticmesh$Network" "others" "[I", Cond.methodLink RX2 37 yX2_hasFibre, Cond.methodLink RX4 101 yX2_lengthOf, Cond.instanceMethod yX2_lengthOf, Cond.selects RX2 yX2_lengthOf yX2_lengthOf, Cond.code yX2_lengthOf cX2_lengthOf 2 (some .int), Cond.fieldLink RX2 25 "Opticmesh$Network" "lengths" "[I"]
def wsX5_findWays_r6 : List Cond := [Cond.methodLink RX4 55 yX4_pickFirst, Cond.instanceMethod yX4_pickFirst, Cond.selects RX4 yX4_pickFirst yX4_pickFirst, Cond.code yX4_pickFirst cX4_pickFirst 2 none, Cond.fieldLink RX4 58 "Opticmesh$WayFinder" "first" "LOpticmesh$Way;", Cond.fieldLink RX4 62 "Opticmesh$WayFinder" "second" "LOpticmesh$Way;", Cond.methodLink RX4 75 yX3_isAheadOf, Cond.instanceMethod yX3_isAheadOf, Cond.selects RX3 yX3_isAheadOf yX3_isAheadOf, Cond.code yX3_isAheadOf cX3_isAheadOf 2 (some .boolean), Cond.methodLink RX5 289 yX4_findOnLowestWavelength, Cond.instanceMethod yX4_findOnLowestWavelength, Cond.selects RX4 yX4_findOnLowestWavelength yX4_findOnLowestWavelength, Cond.code yX4_findOnLowestWavelength cX4_findOnLowestWavelength 4 none, Cond.methodLink RX5 292 yX4_findPair, Cond.instanceMethod yX4_findPair, Cond.selects RX4 yX4_findPair yX4_findPair, Cond.code yX4_findPair cX4_findPair 5 none, Cond.fieldLink RX4 68 "Opticmesh$Way" "fibres" "I", Cond.methodLink RX4 71 yX4_offerPair, Cond.instanceMethod yX4_offerPair, Cond.selects RX4 yX4_offerPair yX4_offerPair, Cond.code yX4_offerPair cX4_offerPair 6 none, Cond.methodLink RX4 79 yX4_isPairAhead]
def wsX5_findWays_r7 : List Cond := [Cond.static yX4_isPairAhead, Cond.code yX4_isPairAhead cX4_isPairAhead 5 (some .boolean), Cond.fieldLink RX4 83 "Opticmesh$Way" "length" "I"]
def wsX5_findWays : List Cond := .code yX5_findWays cX5_findWays 4 none :: ((wsX5_findWays_r1 ++ (wsX5_findWays_r2 ++ (wsX5_findWays_r3 ++ (wsX5_findWays_r4 ++ (wsX5_findWays_r5 ++ (wsX5_findWays_r6 ++ wsX5_findWays_r7)))))) ++ wsX50 ++ wsX20 ++ wsX40 ++ wsX10 ++ wsX30)
def wsX5_livingLights : List Cond := .code yX5_livingLights cX5_livingLights 3 (some .int) :: ([.fieldLink RX5 59 "Opticmesh" "lightCount" "I", .fieldLink RX5 34 "Opticmesh" "lightList" "[LOpticmesh$Light;", .methodLink RX5 184 yX1_isGone, .instanceMethod yX1_isGone, .selects RX1 yX1_isGone yX1_isGone, .initialized RX1, .code yX1_isGone cX1_isGone 1 (some .boolean), .fieldLink RX1 29 "Opticmesh$Light" "units" "I"] ++ wsX50 ++ wsX10)
def wsX5_lightOnFoundWays_r1 : List Cond := [Cond.classLink RX5 76 "java/lang/IllegalStateException", Cond.initialized "java/lang/IllegalStateException", Cond.fieldLink RX5 21 "Opticmesh" "finder" "LOpticmesh$WayFinder;", Cond.fieldLink RX5 160 "Opticmesh$WayFinder" "first" "LOpticmesh$Way;", Cond.fieldLink RX5 59 "Opticmesh" "lightCount" "I", Cond.fieldLink RX5 34 "Opticmesh" "lightList" "[LOpticmesh$Light;", Cond.fieldLink RX5 166 "Opticmesh$WayFinder" "second" "LOpticmesh$Way;", Cond.methodLink RX5 280 yX5_livingLights, Cond.instanceMethod yX5_livingLights, Cond.selects RX5 yX5_livingLights yX5_livingLights, Cond.initialized RX5, Cond.code yX5_livingLights cX5_livingLights 3 (some .int), Cond.methodLink RX5 184 yX1_isGone, Cond.instanceMethod yX1_isGone, Cond.selects RX1 yX1_isGone yX1_isGone, Cond.initialized RX1, Cond.code yX1_isGone cX1_isGone 1 (some .boolean), Cond.fieldLink RX1 29 "Opticmesh$Light" "units" "I", Cond.methodLink RX5 285 yX1_start, Cond.instanceMethod yX1_start, Cond.selects RX1 yX1_start yX1_start, Cond.code yX1_start cX1_start 5 none, Cond.fieldLink RX1 23 "Opticmesh$Light" "from" "I", Cond.fieldLink RX1 26 "Opticmesh$Light" "to" "I"]
def wsX5_lightOnFoundWays_r2 : List Cond := [Cond.fieldLink RX1 10 "Opticmesh$Light" "first" "LOpticmesh$Way;", Cond.fieldLink RX1 36 "Opticmesh$Light" "isProtected" "Z", Cond.fieldLink RX1 16 "Opticmesh$Light" "second" "LOpticmesh$Way;", Cond.methodLink RX1 32 yX3_become, Cond.instanceMethod yX3_become, Cond.selects RX3 yX3_become yX3_become, Cond.initialized RX3, Cond.code yX3_become cX3_become 2 none, Cond.fieldLink RX3 7 "Opticmesh$Way" "count" "I", Cond.fieldLink RX3 13 "Opticmesh$Way" "length" "I", Cond.fieldLink RX3 16 "Opticmesh$Way" "conversions" "I", Cond.fieldLink RX3 19 "Opticmesh$Way" "fibres" "I", Cond.fieldLink RX3 22 "Opticmesh$Way" "channelBytes" "J"]
def wsX5_lightOnFoundWays : List Cond := .code yX5_lightOnFoundWays cX5_lightOnFoundWays 5 (some (.object "Opticmesh$Light")) :: ((wsX5_lightOnFoundWays_r1 ++ wsX5_lightOnFoundWays_r2) ++ wsX50 ++ wsX40 ++ wsX10 ++ wsX30 ++ (vx_atS RX5 80 "java/lang/IllegalStateException" ["java/lang/RuntimeException", "java/lang/Exception"]).filter goodWord)
def wsX5_request_r1 : List Cond := [Cond.classLink RX5 48 "java/lang/IllegalArgumentException", Cond.initialized "java/lang/IllegalArgumentException", Cond.classLink RX5 76 "java/lang/IllegalStateException", Cond.initialized "java/lang/IllegalStateException", Cond.fieldLink RX5 63 "Opticmesh" "requestCount" "I", Cond.fieldLink RX5 155 "Opticmesh$Light" "units" "I", Cond.fieldLink RX5 41 "Opticmesh" "carriers" "[LOpticmesh$Light;", Cond.fieldLink RX5 44 "Opticmesh" "demands" "[I", Cond.methodLink RX5 66 yX5_areTwoNodes, Cond.instanceMethod yX5_areTwoNodes, Cond.selects RX5 yX5_areTwoNodes yX5_areTwoNodes, Cond.initialized RX5, Cond.code yX5_areTwoNodes cX5_areTwoNodes 3 (some .boolean), Cond.fieldLink RX5 12 "Opticmesh" "network" "LOpticmesh$Network;", Cond.methodLink RX5 81 yX2_hasNode, Cond.instanceMethod yX2_hasNode, Cond.selects RX2 yX2_hasNode yX2_hasNode, Cond.initialized RX2, Cond.code yX2_hasNode cX2_hasNode 2 (some .boolean), Cond.fieldLink RX2 9 "Opticmesh$Network" "nodeCount" "I", Cond.methodLink RX5 136 yX5_isRule, Cond.static yX5_isRule, Cond.code yX5_isRule cX5_isRule 1 (some .boolean), Cond.methodLink RX5 143 yX5_lightWithRoom]
def wsX5_request_r2 : List Cond := [Cond.instanceMethod yX5_lightWithRoom, Cond.selects RX5 yX5_lightWithRoom yX5_lightWithRoom, Cond.code yX5_lightWithRoom cX5_lightWithRoom 7 (some (.object "Opticmesh$Light")), Cond.fieldLink RX5 59 "Opticmesh" "lightCount" "I", Cond.fieldLink RX5 34 "Opticmesh" "lightList" "[LOpticmesh$Light;", Cond.fieldLink RX5 102 "Opticmesh$Network" "cutFibres" "I", Cond.fieldLink RX5 206 "Opticmesh$Light" "isProtected" "Z", Cond.methodLink RX5 188 yX1_isUp, Cond.instanceMethod yX1_isUp, Cond.selects RX1 yX1_isUp yX1_isUp, Cond.initialized RX1, Cond.code yX1_isUp cX1_isUp 2 (some .boolean), Cond.fieldLink RX1 10 "Opticmesh$Light" "first" "LOpticmesh$Way;", Cond.fieldLink RX1 44 "Opticmesh$Way" "fibres" "I", Cond.fieldLink RX1 36 "Opticmesh$Light" "isProtected" "Z", Cond.fieldLink RX1 16 "Opticmesh$Light" "second" "LOpticmesh$Way;", Cond.methodLink RX1 40 yX1_isGone, Cond.instanceMethod yX1_isGone, Cond.selects RX1 yX1_isGone yX1_isGone, Cond.code yX1_isGone cX1_isGone 1 (some .boolean), Cond.fieldLink RX1 29 "Opticmesh$Light" "units" "I", Cond.methodLink RX5 277 yX1_joins, Cond.instanceMethod yX1_joins, Cond.selects RX1 yX1_joins yX1_joins]
def wsX5_request_r3 : List Cond := [Cond.code yX1_joins cX1_joins 3 (some .boolean), Cond.fieldLink RX1 23 "Opticmesh$Light" "from" "I", Cond.fieldLink RX1 26 "Opticmesh$Light" "to" "I", Cond.methodLink RX5 147 yX5_findWays, Cond.instanceMethod yX5_findWays, Cond.selects RX5 yX5_findWays yX5_findWays, Cond.code yX5_findWays cX5_findWays 4 none, Cond.fieldLink RX5 21 "Opticmesh" "finder" "LOpticmesh$WayFinder;", Cond.methodLink RX5 212 yX5_openChannels, Cond.instanceMethod yX5_openChannels, Cond.selects RX5 yX5_openChannels yX5_openChannels, Cond.code yX5_openChannels cX5_openChannels 5 none, Cond.fieldLink RX5 107 "Opticmesh$Network" "wavelengthCount" "I", Cond.fieldLink RX5 295 "Opticmesh$WayFinder" "open" "[I", Cond.methodLink RX5 264 yX2_hasFibre, Cond.instanceMethod yX2_hasFibre, Cond.selects RX2 yX2_hasFibre yX2_hasFibre, Cond.code yX2_hasFibre cX2_hasFibre 2 (some .boolean), Cond.fieldLink RX2 28 "Opticmesh$Network" "fibreCount" "I", Cond.methodLink RX5 93 yX2_isCut, Cond.instanceMethod yX2_isCut, Cond.selects RX2 yX2_isCut yX2_isCut, Cond.code yX2_isCut cX2_isCut 2 (some .boolean), Cond.fieldLink RX2 34 "Opticmesh$Network" "cutFibres" "I"]
def wsX5_request_r4 : List Cond := [Cond.methodLink RX5 119 yX5_wavelengthsUsed, Cond.instanceMethod yX5_wavelengthsUsed, Cond.selects RX5 yX5_wavelengthsUsed yX5_wavelengthsUsed, Cond.code yX5_wavelengthsUsed cX5_wavelengthsUsed 5 (some .int), Cond.methodLink RX5 112 yX1_wavelengthsOn, Cond.instanceMethod yX1_wavelengthsOn, Cond.selects RX1 yX1_wavelengthsOn yX1_wavelengthsOn, Cond.code yX1_wavelengthsOn cX1_wavelengthsOn 3 (some .int), Cond.methodLink RX1 47 yX3_wavelengthsOn, Cond.instanceMethod yX3_wavelengthsOn, Cond.selects RX3 yX3_wavelengthsOn yX3_wavelengthsOn, Cond.initialized RX3, Cond.code yX3_wavelengthsOn cX3_wavelengthsOn 5 (some .int), Cond.fieldLink RX3 7 "Opticmesh$Way" "count" "I", Cond.methodLink RX3 30 yX3_uses, Cond.instanceMethod yX3_uses, Cond.selects RX3 yX3_uses yX3_uses, Cond.code yX3_uses cX3_uses 2 (some .boolean), Cond.fieldLink RX3 19 "Opticmesh$Way" "fibres" "I", Cond.methodLink RX3 26 yX3_channelAt, Cond.instanceMethod yX3_channelAt, Cond.selects RX3 yX3_channelAt yX3_channelAt, Cond.code yX3_channelAt cX3_channelAt 2 (some .int), Cond.fieldLink RX3 22 "Opticmesh$Way" "channelBytes" "J"]
def wsX5_request_r5 : List Cond := [Cond.methodLink RX5 222 yX4_findFirst, Cond.instanceMethod yX4_findFirst, Cond.selects RX4 yX4_findFirst yX4_findFirst, Cond.initialized RX4, Cond.code yX4_findFirst cX4_findFirst 3 none, Cond.fieldLink RX4 36 "Opticmesh$WayFinder" "network" "LOpticmesh$Network;", Cond.fieldLink RX4 41 "Opticmesh$Network" "converters" "I", Cond.methodLink RX4 47 yX4_aim, Cond.instanceMethod yX4_aim, Cond.selects RX4 yX4_aim yX4_aim, Cond.code yX4_aim cX4_aim 4 none, Cond.fieldLink RX4 86 "Opticmesh$WayFinder" "target" "I", Cond.fieldLink RX4 89 "Opticmesh$WayFinder" "allowed" "I", Cond.fieldLink RX4 92 "Opticmesh$WayFinder" "converters" "I", Cond.fieldLink RX4 65 "Opticmesh$WayFinder" "keptCount" "I", Cond.methodLink RX4 51 yX4_walk, Cond.instanceMethod yX4_walk, Cond.selects RX4 yX4_walk yX4_walk, Cond.code yX4_walk cX4_walk 11 none, Cond.fieldLink RX4 9 "Opticmesh$WayFinder" "open" "[I", Cond.fieldLink RX4 15 "Opticmesh$WayFinder" "trail" "[I", Cond.fieldLink RX4 18 "Opticmesh$WayFinder" "openOnTrail" "[I", Cond.fieldLink RX4 21 "Opticmesh$WayFinder" "convertsBefore" "[Z", Cond.methodLink RX4 93 yX4_keep]
def wsX5_request_r6 : List Cond := [Cond.instanceMethod yX4_keep, Cond.selects RX4 yX4_keep yX4_keep, Cond.code yX4_keep cX4_keep 5 none, Cond.fieldLink RX4 27 "Opticmesh$WayFinder" "within" "[[I", Cond.fieldLink RX4 32 "Opticmesh$WayFinder" "kept" "[LOpticmesh$Way;", Cond.methodLink RX4 105 yX4_countConversionsBackwards, Cond.instanceMethod yX4_countConversionsBackwards, Cond.selects RX4 yX4_countConversionsBackwards yX4_countConversionsBackwards, Cond.code yX4_countConversionsBackwards cX4_countConversionsBackwards 4 none, Cond.methodLink RX4 122 yX4_leadingOn, Cond.instanceMethod yX4_leadingOn, Cond.selects RX4 yX4_leadingOn yX4_leadingOn, Cond.code yX4_leadingOn cX4_leadingOn 4 (some .int), Cond.methodLink RX4 109 yX3_start, Cond.instanceMethod yX3_start, Cond.selects RX3 yX3_start yX3_start, Cond.code yX3_start cX3_start 3 none, Cond.fieldLink RX3 13 "Opticmesh$Way" "length" "I", Cond.fieldLink RX3 16 "Opticmesh$Way" "conversions" "I", Cond.methodLink RX4 112 yX4_takeLowestWavelengths, Cond.instanceMethod yX4_takeLowestWavelengths, Cond.selects RX4 yX4_takeLowestWavelengths yX4_takeLowestWavelengths, Cond.code yX4_takeLowestWavelengths cX4_takeLowestWavelengths 10 none, Cond.static yX5_lowestIn]
def wsX5_request_r7 : List Cond := [Cond.code yX5_lowestIn cX5_lowestIn 2 (some .int), Cond.methodLink RX4 119 yX3_append, Cond.instanceMethod yX3_append, Cond.selects RX3 yX3_append yX3_append, Cond.code yX3_append cX3_append 3 none, Cond.methodLink RX4 97 yX2_acrossFrom, Cond.instanceMethod yX2_acrossFrom, Cond.selects RX2 yX2_acrossFrom yX2_acrossFrom, Cond.code yX2_acrossFrom cX2_acrossFrom 3 (some .int), Cond.fieldLink RX2 18 "Opticmesh$Network" "ones" "[I", Cond.fieldLink RX2 22 "Opticmesh$Network" "others" "[I", Cond.methodLink RX2 37 yX2_hasFibre, Cond.methodLink RX4 101 yX2_lengthOf, Cond.instanceMethod yX2_lengthOf, Cond.selects RX2 yX2_lengthOf yX2_lengthOf, Cond.code yX2_lengthOf cX2_lengthOf 2 (some .int), Cond.fieldLink RX2 25 "Opticmesh$Network" "lengths" "[I", Cond.methodLink RX4 55 yX4_pickFirst, Cond.instanceMethod yX4_pickFirst, Cond.selects RX4 yX4_pickFirst yX4_pickFirst, Cond.code yX4_pickFirst cX4_pickFirst 2 none, Cond.fieldLink RX4 58 "Opticmesh$WayFinder" "first" "LOpticmesh$Way;", Cond.fieldLink RX4 62 "Opticmesh$WayFinder" "second" "LOpticmesh$Way;", Cond.methodLink RX4 75 yX3_isAheadOf]
def wsX5_request_r8 : List Cond := [Cond.instanceMethod yX3_isAheadOf, Cond.selects RX3 yX3_isAheadOf yX3_isAheadOf, Cond.code yX3_isAheadOf cX3_isAheadOf 2 (some .boolean), Cond.methodLink RX5 289 yX4_findOnLowestWavelength, Cond.instanceMethod yX4_findOnLowestWavelength, Cond.selects RX4 yX4_findOnLowestWavelength yX4_findOnLowestWavelength, Cond.code yX4_findOnLowestWavelength cX4_findOnLowestWavelength 4 none, Cond.methodLink RX5 292 yX4_findPair, Cond.instanceMethod yX4_findPair, Cond.selects RX4 yX4_findPair yX4_findPair, Cond.code yX4_findPair cX4_findPair 5 none, Cond.fieldLink RX4 68 "Opticmesh$Way" "fibres" "I", Cond.methodLink RX4 71 yX4_offerPair, Cond.instanceMethod yX4_offerPair, Cond.selects RX4 yX4_offerPair yX4_offerPair, Cond.code yX4_offerPair cX4_offerPair 6 none, Cond.methodLink RX4 79 yX4_isPairAhead, Cond.static yX4_isPairAhead, Cond.code yX4_isPairAhead cX4_isPairAhead 5 (some .boolean), Cond.fieldLink RX4 83 "Opticmesh$Way" "length" "I", Cond.methodLink RX5 151 yX5_lightOnFoundWays, Cond.instanceMethod yX5_lightOnFoundWays, Cond.selects RX5 yX5_lightOnFoundWays yX5_lightOnFoundWays, Cond.code yX5_lightOnFoundWays cX5_lightOnFoundWays 5 (some (.object "Opticmesh$Light"))]
def wsX5_request_r9 : List Cond := [Cond.fieldLink RX5 160 "Opticmesh$WayFinder" "first" "LOpticmesh$Way;", Cond.fieldLink RX5 166 "Opticmesh$WayFinder" "second" "LOpticmesh$Way;", Cond.methodLink RX5 280 yX5_livingLights, Cond.instanceMethod yX5_livingLights, Cond.selects RX5 yX5_livingLights yX5_livingLights, Cond.code yX5_livingLights cX5_livingLights 3 (some .int), Cond.methodLink RX5 184 yX1_isGone, Cond.methodLink RX5 285 yX1_start, Cond.instanceMethod yX1_start, Cond.selects RX1 yX1_start yX1_start, Cond.code yX1_start cX1_start 5 none, Cond.methodLink RX1 32 yX3_become, Cond.instanceMethod yX3_become, Cond.selects RX3 yX3_become yX3_become, Cond.code yX3_become cX3_become 2 none]
def wsX5_request : List Cond := .code yX5_request cX5_request 6 (some .int) :: ((wsX5_request_r1 ++ (wsX5_request_r2 ++ (wsX5_request_r3 ++ (wsX5_request_r4 ++ (wsX5_request_r5 ++ (wsX5_request_r6 ++ (wsX5_request_r7 ++ (wsX5_request_r8 ++ wsX5_request_r9)))))))) ++ wsX50 ++ wsX10 ++ wsX20 ++ wsX30 ++ wsX40 ++ (vx_atS RX5 52 "java/lang/IllegalArgumentException" ["java/lang/RuntimeException", "java/lang/Exception"]).filter goodWord ++ (vx_atS RX5 80 "java/lang/IllegalStateException" ["java/lang/RuntimeException", "java/lang/Exception"]).filter goodWord)
def wsX5_newLength_r1 : List Cond := [Cond.classLink RX5 48 "java/lang/IllegalArgumentException", Cond.initialized "java/lang/IllegalArgumentException", Cond.classLink RX5 76 "java/lang/IllegalStateException", Cond.initialized "java/lang/IllegalStateException", Cond.fieldLink RX5 21 "Opticmesh" "finder" "LOpticmesh$WayFinder;", Cond.fieldLink RX5 160 "Opticmesh$WayFinder" "first" "LOpticmesh$Way;", Cond.fieldLink RX5 166 "Opticmesh$WayFinder" "second" "LOpticmesh$Way;", Cond.fieldLink RX5 169 "Opticmesh$Way" "length" "I", Cond.methodLink RX5 66 yX5_areTwoNodes, Cond.instanceMethod yX5_areTwoNodes, Cond.selects RX5 yX5_areTwoNodes yX5_areTwoNodes, Cond.initialized RX5, Cond.code yX5_areTwoNodes cX5_areTwoNodes 3 (some .boolean), Cond.fieldLink RX5 12 "Opticmesh" "network" "LOpticmesh$Network;", Cond.methodLink RX5 81 yX2_hasNode, Cond.instanceMethod yX2_hasNode, Cond.selects RX2 yX2_hasNode yX2_hasNode, Cond.initialized RX2, Cond.code yX2_hasNode cX2_hasNode 2 (some .boolean), Cond.fieldLink RX2 9 "Opticmesh$Network" "nodeCount" "I", Cond.methodLink RX5 136 yX5_isRule, Cond.static yX5_isRule, Cond.code yX5_isRule cX5_isRule 1 (some .boolean), Cond.methodLink RX5 147 yX5_findWays]
def wsX5_newLength_r2 : List Cond := [Cond.instanceMethod yX5_findWays, Cond.selects RX5 yX5_findWays yX5_findWays, Cond.code yX5_findWays cX5_findWays 4 none, Cond.methodLink RX5 212 yX5_openChannels, Cond.instanceMethod yX5_openChannels, Cond.selects RX5 yX5_openChannels yX5_openChannels, Cond.code yX5_openChannels cX5_openChannels 5 none, Cond.fieldLink RX5 107 "Opticmesh$Network" "wavelengthCount" "I", Cond.fieldLink RX5 295 "Opticmesh$WayFinder" "open" "[I", Cond.methodLink RX5 264 yX2_hasFibre, Cond.instanceMethod yX2_hasFibre, Cond.selects RX2 yX2_hasFibre yX2_hasFibre, Cond.code yX2_hasFibre cX2_hasFibre 2 (some .boolean), Cond.fieldLink RX2 28 "Opticmesh$Network" "fibreCount" "I", Cond.methodLink RX5 93 yX2_isCut, Cond.instanceMethod yX2_isCut, Cond.selects RX2 yX2_isCut yX2_isCut, Cond.code yX2_isCut cX2_isCut 2 (some .boolean), Cond.fieldLink RX2 34 "Opticmesh$Network" "cutFibres" "I", Cond.methodLink RX5 119 yX5_wavelengthsUsed, Cond.instanceMethod yX5_wavelengthsUsed, Cond.selects RX5 yX5_wavelengthsUsed yX5_wavelengthsUsed, Cond.code yX5_wavelengthsUsed cX5_wavelengthsUsed 5 (some .int), Cond.fieldLink RX5 59 "Opticmesh" "lightCount" "I"]
def wsX5_newLength_r3 : List Cond := [Cond.fieldLink RX5 34 "Opticmesh" "lightList" "[LOpticmesh$Light;", Cond.methodLink RX5 112 yX1_wavelengthsOn, Cond.instanceMethod yX1_wavelengthsOn, Cond.selects RX1 yX1_wavelengthsOn yX1_wavelengthsOn, Cond.initialized RX1, Cond.code yX1_wavelengthsOn cX1_wavelengthsOn 3 (some .int), Cond.fieldLink RX1 10 "Opticmesh$Light" "first" "LOpticmesh$Way;", Cond.fieldLink RX1 36 "Opticmesh$Light" "isProtected" "Z", Cond.fieldLink RX1 16 "Opticmesh$Light" "second" "LOpticmesh$Way;", Cond.methodLink RX1 40 yX1_isGone, Cond.instanceMethod yX1_isGone, Cond.selects RX1 yX1_isGone yX1_isGone, Cond.code yX1_isGone cX1_isGone 1 (some .boolean), Cond.fieldLink RX1 29 "Opticmesh$Light" "units" "I", Cond.methodLink RX1 47 yX3_wavelengthsOn, Cond.instanceMethod yX3_wavelengthsOn, Cond.selects RX3 yX3_wavelengthsOn yX3_wavelengthsOn, Cond.initialized RX3, Cond.code yX3_wavelengthsOn cX3_wavelengthsOn 5 (some .int), Cond.fieldLink RX3 7 "Opticmesh$Way" "count" "I", Cond.methodLink RX3 30 yX3_uses, Cond.instanceMethod yX3_uses, Cond.selects RX3 yX3_uses yX3_uses, Cond.code yX3_uses cX3_uses 2 (some .boolean)]
def wsX5_newLength_r4 : List Cond := [Cond.fieldLink RX3 19 "Opticmesh$Way" "fibres" "I", Cond.methodLink RX3 26 yX3_channelAt, Cond.instanceMethod yX3_channelAt, Cond.selects RX3 yX3_channelAt yX3_channelAt, Cond.code yX3_channelAt cX3_channelAt 2 (some .int), Cond.fieldLink RX3 22 "Opticmesh$Way" "channelBytes" "J", Cond.methodLink RX5 222 yX4_findFirst, Cond.instanceMethod yX4_findFirst, Cond.selects RX4 yX4_findFirst yX4_findFirst, Cond.initialized RX4, Cond.code yX4_findFirst cX4_findFirst 3 none, Cond.fieldLink RX4 36 "Opticmesh$WayFinder" "network" "LOpticmesh$Network;", Cond.fieldLink RX4 41 "Opticmesh$Network" "converters" "I", Cond.methodLink RX4 47 yX4_aim, Cond.instanceMethod yX4_aim, Cond.selects RX4 yX4_aim yX4_aim, Cond.code yX4_aim cX4_aim 4 none, Cond.fieldLink RX4 86 "Opticmesh$WayFinder" "target" "I", Cond.fieldLink RX4 89 "Opticmesh$WayFinder" "allowed" "I", Cond.fieldLink RX4 92 "Opticmesh$WayFinder" "converters" "I", Cond.fieldLink RX4 65 "Opticmesh$WayFinder" "keptCount" "I", Cond.methodLink RX4 51 yX4_walk, Cond.instanceMethod yX4_walk, Cond.selects RX4 yX4_walk yX4_walk]
def wsX5_newLength_r5 : List Cond := [Cond.code yX4_walk cX4_walk 11 none, Cond.fieldLink RX4 9 "Opticmesh$WayFinder" "open" "[I", Cond.fieldLink RX4 15 "Opticmesh$WayFinder" "trail" "[I", Cond.fieldLink RX4 18 "Opticmesh$WayFinder" "openOnTrail" "[I", Cond.fieldLink RX4 21 "Opticmesh$WayFinder" "convertsBefore" "[Z", Cond.methodLink RX4 93 yX4_keep, Cond.instanceMethod yX4_keep, Cond.selects RX4 yX4_keep yX4_keep, Cond.code yX4_keep cX4_keep 5 none, Cond.fieldLink RX4 27 "Opticmesh$WayFinder" "within" "[[I", Cond.fieldLink RX4 32 "Opticmesh$WayFinder" "kept" "[LOpticmesh$Way;", Cond.methodLink RX4 105 yX4_countConversionsBackwards, Cond.instanceMethod yX4_countConversionsBackwards, Cond.selects RX4 yX4_countConversionsBackwards yX4_countConversionsBackwards, Cond.code yX4_countConversionsBackwards cX4_countConversionsBackwards 4 none, Cond.methodLink RX4 122 yX4_leadingOn, Cond.instanceMethod yX4_leadingOn, Cond.selects RX4 yX4_leadingOn yX4_leadingOn, Cond.code yX4_leadingOn cX4_leadingOn 4 (some .int), Cond.methodLink RX4 109 yX3_start, Cond.instanceMethod yX3_start, Cond.selects RX3 yX3_start yX3_start, Cond.code yX3_start cX3_start 3 none, Cond.fieldLink RX3 13 "Opticmesh$Way" "length" "I"]
def wsX5_newLength_r6 : List Cond := [Cond.fieldLink RX3 16 "Opticmesh$Way" "conversions" "I", Cond.methodLink RX4 112 yX4_takeLowestWavelengths, Cond.instanceMethod yX4_takeLowestWavelengths, Cond.selects RX4 yX4_takeLowestWavelengths yX4_takeLowestWavelengths, Cond.code yX4_takeLowestWavelengths cX4_takeLowestWavelengths 10 none, Cond.static yX5_lowestIn, Cond.code yX5_lowestIn cX5_lowestIn 2 (some .int), Cond.methodLink RX4 119 yX3_append, Cond.instanceMethod yX3_append, Cond.selects RX3 yX3_append yX3_append, Cond.code yX3_append cX3_append 3 none, Cond.methodLink RX4 97 yX2_acrossFrom, Cond.instanceMethod yX2_acrossFrom, Cond.selects RX2 yX2_acrossFrom yX2_acrossFrom, Cond.code yX2_acrossFrom cX2_acrossFrom 3 (some .int), Cond.fieldLink RX2 18 "Opticmesh$Network" "ones" "[I", Cond.fieldLink RX2 22 "Opticmesh$Network" "others" "[I", Cond.methodLink RX2 37 yX2_hasFibre, Cond.methodLink RX4 101 yX2_lengthOf, Cond.instanceMethod yX2_lengthOf, Cond.selects RX2 yX2_lengthOf yX2_lengthOf, Cond.code yX2_lengthOf cX2_lengthOf 2 (some .int), Cond.fieldLink RX2 25 "Opticmesh$Network" "lengths" "[I", Cond.methodLink RX4 55 yX4_pickFirst]
def wsX5_newLength_r7 : List Cond := [Cond.instanceMethod yX4_pickFirst, Cond.selects RX4 yX4_pickFirst yX4_pickFirst, Cond.code yX4_pickFirst cX4_pickFirst 2 none, Cond.fieldLink RX4 58 "Opticmesh$WayFinder" "first" "LOpticmesh$Way;", Cond.fieldLink RX4 62 "Opticmesh$WayFinder" "second" "LOpticmesh$Way;", Cond.methodLink RX4 75 yX3_isAheadOf, Cond.instanceMethod yX3_isAheadOf, Cond.selects RX3 yX3_isAheadOf yX3_isAheadOf, Cond.code yX3_isAheadOf cX3_isAheadOf 2 (some .boolean), Cond.methodLink RX5 289 yX4_findOnLowestWavelength, Cond.instanceMethod yX4_findOnLowestWavelength, Cond.selects RX4 yX4_findOnLowestWavelength yX4_findOnLowestWavelength, Cond.code yX4_findOnLowestWavelength cX4_findOnLowestWavelength 4 none, Cond.methodLink RX5 292 yX4_findPair, Cond.instanceMethod yX4_findPair, Cond.selects RX4 yX4_findPair yX4_findPair, Cond.code yX4_findPair cX4_findPair 5 none, Cond.fieldLink RX4 68 "Opticmesh$Way" "fibres" "I", Cond.methodLink RX4 71 yX4_offerPair, Cond.instanceMethod yX4_offerPair, Cond.selects RX4 yX4_offerPair yX4_offerPair, Cond.code yX4_offerPair cX4_offerPair 6 none, Cond.methodLink RX4 79 yX4_isPairAhead, Cond.static yX4_isPairAhead]
def wsX5_newLength_r8 : List Cond := [Cond.code yX4_isPairAhead cX4_isPairAhead 5 (some .boolean), Cond.fieldLink RX4 83 "Opticmesh$Way" "length" "I"]
def wsX5_newLength : List Cond := .code yX5_newLength cX5_newLength 6 (some .int) :: ((wsX5_newLength_r1 ++ (wsX5_newLength_r2 ++ (wsX5_newLength_r3 ++ (wsX5_newLength_r4 ++ (wsX5_newLength_r5 ++ (wsX5_newLength_r6 ++ (wsX5_newLength_r7 ++ wsX5_newLength_r8))))))) ++ wsX50 ++ wsX40 ++ wsX30 ++ wsX20 ++ wsX10 ++ (vx_atS RX5 52 "java/lang/IllegalArgumentException" ["java/lang/RuntimeException", "java/lang/Exception"]).filter goodWord ++ (vx_atS RX5 80 "java/lang/IllegalStateException" ["java/lang/RuntimeException", "java/lang/Exception"]).filter goodWord)
def wsX5_carrierOf : List Cond := .code yX5_carrierOf cX5_carrierOf 3 (some (.object "Opticmesh$Light")) :: ([.classLink RX5 198 "java/lang/IndexOutOfBoundsException", .initialized "java/lang/IndexOutOfBoundsException", .classLink RX5 76 "java/lang/IllegalStateException", .initialized "java/lang/IllegalStateException", .fieldLink RX5 63 "Opticmesh" "requestCount" "I", .fieldLink RX5 41 "Opticmesh" "carriers" "[LOpticmesh$Light;"] ++ wsX50 ++ (vx_atS RX5 202 "java/lang/IndexOutOfBoundsException" ["java/lang/RuntimeException", "java/lang/Exception"]).filter goodWord ++ (vx_atS RX5 80 "java/lang/IllegalStateException" ["java/lang/RuntimeException", "java/lang/Exception"]).filter goodWord)
def wsX5_release : List Cond := .code yX5_release cX5_release 3 (some .int) :: ([.fieldLink RX5 41 "Opticmesh" "carriers" "[LOpticmesh$Light;", .fieldLink RX5 155 "Opticmesh$Light" "units" "I", .fieldLink RX5 44 "Opticmesh" "demands" "[I", .methodLink RX5 174 yX5_carrierOf, .instanceMethod yX5_carrierOf, .selects RX5 yX5_carrierOf yX5_carrierOf, .initialized RX5, .code yX5_carrierOf cX5_carrierOf 3 (some (.object "Opticmesh$Light")), .classLink RX5 198 "java/lang/IndexOutOfBoundsException", .initialized "java/lang/IndexOutOfBoundsException", .classLink RX5 76 "java/lang/IllegalStateException", .initialized "java/lang/IllegalStateException", .fieldLink RX5 63 "Opticmesh" "requestCount" "I"] ++ wsX50 ++ wsX10 ++ (vx_atS RX5 202 "java/lang/IndexOutOfBoundsException" ["java/lang/RuntimeException", "java/lang/Exception"]).filter goodWord ++ (vx_atS RX5 80 "java/lang/IllegalStateException" ["java/lang/RuntimeException", "java/lang/Exception"]).filter goodWord)
def wsX5_lightOf : List Cond := .code yX5_lightOf cX5_lightOf 2 (some .int) :: ([.fieldLink RX5 178 "Opticmesh$Light" "number" "I", .methodLink RX5 174 yX5_carrierOf, .instanceMethod yX5_carrierOf, .selects RX5 yX5_carrierOf yX5_carrierOf, .initialized RX5, .code yX5_carrierOf cX5_carrierOf 3 (some (.object "Opticmesh$Light")), .classLink RX5 198 "java/lang/IndexOutOfBoundsException", .initialized "java/lang/IndexOutOfBoundsException", .classLink RX5 76 "java/lang/IllegalStateException", .initialized "java/lang/IllegalStateException", .fieldLink RX5 63 "Opticmesh" "requestCount" "I", .fieldLink RX5 41 "Opticmesh" "carriers" "[LOpticmesh$Light;"] ++ wsX10 ++ wsX50 ++ (vx_atS RX5 202 "java/lang/IndexOutOfBoundsException" ["java/lang/RuntimeException", "java/lang/Exception"]).filter goodWord ++ (vx_atS RX5 80 "java/lang/IllegalStateException" ["java/lang/RuntimeException", "java/lang/Exception"]).filter goodWord)
def wsX5_requests : List Cond := .code yX5_requests cX5_requests 1 (some .int) :: ([.fieldLink RX5 63 "Opticmesh" "requestCount" "I"] ++ wsX50)
def wsX5_lights : List Cond := .code yX5_lights cX5_lights 1 (some .int) :: ([.fieldLink RX5 59 "Opticmesh" "lightCount" "I"] ++ wsX50)
def wsX5_existingLight : List Cond := .code yX5_existingLight cX5_existingLight 2 (some (.object "Opticmesh$Light")) :: ([.classLink RX5 198 "java/lang/IndexOutOfBoundsException", .initialized "java/lang/IndexOutOfBoundsException", .fieldLink RX5 59 "Opticmesh" "lightCount" "I", .fieldLink RX5 34 "Opticmesh" "lightList" "[LOpticmesh$Light;"] ++ wsX50 ++ (vx_atS RX5 202 "java/lang/IndexOutOfBoundsException" ["java/lang/RuntimeException", "java/lang/Exception"]).filter goodWord)
def wsX5_state_r1 : List Cond := [Cond.fieldLink RX5 12 "Opticmesh" "network" "LOpticmesh$Network;", Cond.fieldLink RX5 102 "Opticmesh$Network" "cutFibres" "I", Cond.methodLink RX5 181 yX5_existingLight, Cond.instanceMethod yX5_existingLight, Cond.selects RX5 yX5_existingLight yX5_existingLight, Cond.initialized RX5, Cond.code yX5_existingLight cX5_existingLight 2 (some (.object "Opticmesh$Light")), Cond.classLink RX5 198 "java/lang/IndexOutOfBoundsException", Cond.initialized "java/lang/IndexOutOfBoundsException", Cond.fieldLink RX5 59 "Opticmesh" "lightCount" "I", Cond.fieldLink RX5 34 "Opticmesh" "lightList" "[LOpticmesh$Light;", Cond.methodLink RX5 184 yX1_isGone, Cond.instanceMethod yX1_isGone, Cond.selects RX1 yX1_isGone yX1_isGone, Cond.initialized RX1, Cond.code yX1_isGone cX1_isGone 1 (some .boolean), Cond.fieldLink RX1 29 "Opticmesh$Light" "units" "I", Cond.methodLink RX5 188 yX1_isUp, Cond.instanceMethod yX1_isUp, Cond.selects RX1 yX1_isUp yX1_isUp, Cond.code yX1_isUp cX1_isUp 2 (some .boolean), Cond.fieldLink RX1 10 "Opticmesh$Light" "first" "LOpticmesh$Way;", Cond.fieldLink RX1 44 "Opticmesh$Way" "fibres" "I", Cond.fieldLink RX1 36 "Opticmesh$Light" "isProtected" "Z"]
def wsX5_state_r2 : List Cond := [Cond.fieldLink RX1 16 "Opticmesh$Light" "second" "LOpticmesh$Way;", Cond.methodLink RX1 40 yX1_isGone]
def wsX5_state : List Cond := .code yX5_state cX5_state 3 (some .int) :: ((wsX5_state_r1 ++ wsX5_state_r2) ++ wsX50 ++ wsX20 ++ wsX10 ++ wsX30 ++ (vx_atS RX5 202 "java/lang/IndexOutOfBoundsException" ["java/lang/RuntimeException", "java/lang/Exception"]).filter goodWord)
def wsX5_units : List Cond := .code yX5_units cX5_units 2 (some .int) :: ([.fieldLink RX5 155 "Opticmesh$Light" "units" "I", .methodLink RX5 181 yX5_existingLight, .instanceMethod yX5_existingLight, .selects RX5 yX5_existingLight yX5_existingLight, .initialized RX5, .code yX5_existingLight cX5_existingLight 2 (some (.object "Opticmesh$Light")), .classLink RX5 198 "java/lang/IndexOutOfBoundsException", .initialized "java/lang/IndexOutOfBoundsException", .fieldLink RX5 59 "Opticmesh" "lightCount" "I", .fieldLink RX5 34 "Opticmesh" "lightList" "[LOpticmesh$Light;"] ++ wsX10 ++ wsX50 ++ (vx_atS RX5 202 "java/lang/IndexOutOfBoundsException" ["java/lang/RuntimeException", "java/lang/Exception"]).filter goodWord)
def wsX5_wayOf : List Cond := .code yX5_wayOf cX5_wayOf 4 (some (.object "Opticmesh$Way")) :: ([.classLink RX5 198 "java/lang/IndexOutOfBoundsException", .initialized "java/lang/IndexOutOfBoundsException", .methodLink RX5 181 yX5_existingLight, .instanceMethod yX5_existingLight, .selects RX5 yX5_existingLight yX5_existingLight, .initialized RX5, .code yX5_existingLight cX5_existingLight 2 (some (.object "Opticmesh$Light")), .fieldLink RX5 59 "Opticmesh" "lightCount" "I", .fieldLink RX5 34 "Opticmesh" "lightList" "[LOpticmesh$Light;", .methodLink RX5 242 yX1_wayAt, .instanceMethod yX1_wayAt, .selects RX1 yX1_wayAt yX1_wayAt, .initialized RX1, .code yX1_wayAt cX1_wayAt 2 (some (.object "Opticmesh$Way")), .fieldLink RX1 10 "Opticmesh$Light" "first" "LOpticmesh$Way;", .fieldLink RX1 36 "Opticmesh$Light" "isProtected" "Z", .fieldLink RX1 16 "Opticmesh$Light" "second" "LOpticmesh$Way;", .methodLink RX1 40 yX1_isGone, .instanceMethod yX1_isGone, .selects RX1 yX1_isGone yX1_isGone, .code yX1_isGone cX1_isGone 1 (some .boolean), .fieldLink RX1 29 "Opticmesh$Light" "units" "I"] ++ wsX50 ++ wsX10 ++ (vx_atS RX5 202 "java/lang/IndexOutOfBoundsException" ["java/lang/RuntimeException", "java/lang/Exception"]).filter goodWord)
def wsX5_channels_r1 : List Cond := [Cond.fieldLink RX5 195 "Opticmesh$Way" "count" "I", Cond.methodLink RX5 191 yX5_wayOf, Cond.instanceMethod yX5_wayOf, Cond.selects RX5 yX5_wayOf yX5_wayOf, Cond.initialized RX5, Cond.code yX5_wayOf cX5_wayOf 4 (some (.object "Opticmesh$Way")), Cond.classLink RX5 198 "java/lang/IndexOutOfBoundsException", Cond.initialized "java/lang/IndexOutOfBoundsException", Cond.methodLink RX5 181 yX5_existingLight, Cond.instanceMethod yX5_existingLight, Cond.selects RX5 yX5_existingLight yX5_existingLight, Cond.code yX5_existingLight cX5_existingLight 2 (some (.object "Opticmesh$Light")), Cond.fieldLink RX5 59 "Opticmesh" "lightCount" "I", Cond.fieldLink RX5 34 "Opticmesh" "lightList" "[LOpticmesh$Light;", Cond.methodLink RX5 242 yX1_wayAt, Cond.instanceMethod yX1_wayAt, Cond.selects RX1 yX1_wayAt yX1_wayAt, Cond.initialized RX1, Cond.code yX1_wayAt cX1_wayAt 2 (some (.object "Opticmesh$Way")), Cond.fieldLink RX1 10 "Opticmesh$Light" "first" "LOpticmesh$Way;", Cond.fieldLink RX1 36 "Opticmesh$Light" "isProtected" "Z", Cond.fieldLink RX1 16 "Opticmesh$Light" "second" "LOpticmesh$Way;", Cond.methodLink RX1 40 yX1_isGone, Cond.instanceMethod yX1_isGone]
def wsX5_channels_r2 : List Cond := [Cond.selects RX1 yX1_isGone yX1_isGone, Cond.code yX1_isGone cX1_isGone 1 (some .boolean), Cond.fieldLink RX1 29 "Opticmesh$Light" "units" "I"]
def wsX5_channels : List Cond := .code yX5_channels cX5_channels 3 (some .int) :: ((wsX5_channels_r1 ++ wsX5_channels_r2) ++ wsX30 ++ wsX50 ++ wsX10 ++ (vx_atS RX5 202 "java/lang/IndexOutOfBoundsException" ["java/lang/RuntimeException", "java/lang/Exception"]).filter goodWord)
def wsX5_channel_r1 : List Cond := [Cond.classLink RX5 198 "java/lang/IndexOutOfBoundsException", Cond.initialized "java/lang/IndexOutOfBoundsException", Cond.fieldLink RX5 195 "Opticmesh$Way" "count" "I", Cond.methodLink RX5 191 yX5_wayOf, Cond.instanceMethod yX5_wayOf, Cond.selects RX5 yX5_wayOf yX5_wayOf, Cond.initialized RX5, Cond.code yX5_wayOf cX5_wayOf 4 (some (.object "Opticmesh$Way")), Cond.methodLink RX5 181 yX5_existingLight, Cond.instanceMethod yX5_existingLight, Cond.selects RX5 yX5_existingLight yX5_existingLight, Cond.code yX5_existingLight cX5_existingLight 2 (some (.object "Opticmesh$Light")), Cond.fieldLink RX5 59 "Opticmesh" "lightCount" "I", Cond.fieldLink RX5 34 "Opticmesh" "lightList" "[LOpticmesh$Light;", Cond.methodLink RX5 242 yX1_wayAt, Cond.instanceMethod yX1_wayAt, Cond.selects RX1 yX1_wayAt yX1_wayAt, Cond.initialized RX1, Cond.code yX1_wayAt cX1_wayAt 2 (some (.object "Opticmesh$Way")), Cond.fieldLink RX1 10 "Opticmesh$Light" "first" "LOpticmesh$Way;", Cond.fieldLink RX1 36 "Opticmesh$Light" "isProtected" "Z", Cond.fieldLink RX1 16 "Opticmesh$Light" "second" "LOpticmesh$Way;", Cond.methodLink RX1 40 yX1_isGone, Cond.instanceMethod yX1_isGone]
def wsX5_channel_r2 : List Cond := [Cond.selects RX1 yX1_isGone yX1_isGone, Cond.code yX1_isGone cX1_isGone 1 (some .boolean), Cond.fieldLink RX1 29 "Opticmesh$Light" "units" "I", Cond.methodLink RX5 203 yX3_channelAt, Cond.instanceMethod yX3_channelAt, Cond.selects RX3 yX3_channelAt yX3_channelAt, Cond.initialized RX3, Cond.code yX3_channelAt cX3_channelAt 2 (some .int), Cond.fieldLink RX3 22 "Opticmesh$Way" "channelBytes" "J", Cond.fieldLink RX3 7 "Opticmesh$Way" "count" "I"]
def wsX5_channel : List Cond := .code yX5_channel cX5_channel 5 (some .int) :: ((wsX5_channel_r1 ++ wsX5_channel_r2) ++ wsX30 ++ wsX50 ++ wsX10 ++ (vx_atS RX5 202 "java/lang/IndexOutOfBoundsException" ["java/lang/RuntimeException", "java/lang/Exception"]).filter goodWord)
def wsX5_reroute_r1 : List Cond := [Cond.classLink RX5 76 "java/lang/IllegalStateException", Cond.initialized "java/lang/IllegalStateException", Cond.fieldLink RX5 206 "Opticmesh$Light" "isProtected" "Z", Cond.fieldLink RX5 21 "Opticmesh" "finder" "LOpticmesh$WayFinder;", Cond.fieldLink RX5 216 "Opticmesh$Light" "from" "I", Cond.fieldLink RX5 219 "Opticmesh$Light" "to" "I", Cond.fieldLink RX5 160 "Opticmesh$WayFinder" "first" "LOpticmesh$Way;", Cond.fieldLink RX5 227 "Opticmesh$Light" "first" "LOpticmesh$Way;", Cond.fieldLink RX5 169 "Opticmesh$Way" "length" "I", Cond.methodLink RX5 181 yX5_existingLight, Cond.instanceMethod yX5_existingLight, Cond.selects RX5 yX5_existingLight yX5_existingLight, Cond.initialized RX5, Cond.code yX5_existingLight cX5_existingLight 2 (some (.object "Opticmesh$Light")), Cond.classLink RX5 198 "java/lang/IndexOutOfBoundsException", Cond.initialized "java/lang/IndexOutOfBoundsException", Cond.fieldLink RX5 59 "Opticmesh" "lightCount" "I", Cond.fieldLink RX5 34 "Opticmesh" "lightList" "[LOpticmesh$Light;", Cond.methodLink RX5 184 yX1_isGone, Cond.instanceMethod yX1_isGone, Cond.selects RX1 yX1_isGone yX1_isGone, Cond.initialized RX1, Cond.code yX1_isGone cX1_isGone 1 (some .boolean), Cond.fieldLink RX1 29 "Opticmesh$Light" "units" "I"]
def wsX5_reroute_r2 : List Cond := [Cond.methodLink RX5 212 yX5_openChannels, Cond.instanceMethod yX5_openChannels, Cond.selects RX5 yX5_openChannels yX5_openChannels, Cond.code yX5_openChannels cX5_openChannels 5 none, Cond.fieldLink RX5 12 "Opticmesh" "network" "LOpticmesh$Network;", Cond.fieldLink RX5 107 "Opticmesh$Network" "wavelengthCount" "I", Cond.fieldLink RX5 295 "Opticmesh$WayFinder" "open" "[I", Cond.methodLink RX5 264 yX2_hasFibre, Cond.instanceMethod yX2_hasFibre, Cond.selects RX2 yX2_hasFibre yX2_hasFibre, Cond.initialized RX2, Cond.code yX2_hasFibre cX2_hasFibre 2 (some .boolean), Cond.fieldLink RX2 28 "Opticmesh$Network" "fibreCount" "I", Cond.methodLink RX5 93 yX2_isCut, Cond.instanceMethod yX2_isCut, Cond.selects RX2 yX2_isCut yX2_isCut, Cond.code yX2_isCut cX2_isCut 2 (some .boolean), Cond.fieldLink RX2 34 "Opticmesh$Network" "cutFibres" "I", Cond.methodLink RX5 119 yX5_wavelengthsUsed, Cond.instanceMethod yX5_wavelengthsUsed, Cond.selects RX5 yX5_wavelengthsUsed yX5_wavelengthsUsed, Cond.code yX5_wavelengthsUsed cX5_wavelengthsUsed 5 (some .int), Cond.methodLink RX5 112 yX1_wavelengthsOn, Cond.instanceMethod yX1_wavelengthsOn]
def wsX5_reroute_r3 : List Cond := [Cond.selects RX1 yX1_wavelengthsOn yX1_wavelengthsOn, Cond.code yX1_wavelengthsOn cX1_wavelengthsOn 3 (some .int), Cond.fieldLink RX1 10 "Opticmesh$Light" "first" "LOpticmesh$Way;", Cond.fieldLink RX1 36 "Opticmesh$Light" "isProtected" "Z", Cond.fieldLink RX1 16 "Opticmesh$Light" "second" "LOpticmesh$Way;", Cond.methodLink RX1 40 yX1_isGone, Cond.methodLink RX1 47 yX3_wavelengthsOn, Cond.instanceMethod yX3_wavelengthsOn, Cond.selects RX3 yX3_wavelengthsOn yX3_wavelengthsOn, Cond.initialized RX3, Cond.code yX3_wavelengthsOn cX3_wavelengthsOn 5 (some .int), Cond.fieldLink RX3 7 "Opticmesh$Way" "count" "I", Cond.methodLink RX3 30 yX3_uses, Cond.instanceMethod yX3_uses, Cond.selects RX3 yX3_uses yX3_uses, Cond.code yX3_uses cX3_uses 2 (some .boolean), Cond.fieldLink RX3 19 "Opticmesh$Way" "fibres" "I", Cond.methodLink RX3 26 yX3_channelAt, Cond.instanceMethod yX3_channelAt, Cond.selects RX3 yX3_channelAt yX3_channelAt, Cond.code yX3_channelAt cX3_channelAt 2 (some .int), Cond.fieldLink RX3 22 "Opticmesh$Way" "channelBytes" "J", Cond.methodLink RX5 222 yX4_findFirst, Cond.instanceMethod yX4_findFirst]
def wsX5_reroute_r4 : List Cond := [Cond.selects RX4 yX4_findFirst yX4_findFirst, Cond.initialized RX4, Cond.code yX4_findFirst cX4_findFirst 3 none, Cond.fieldLink RX4 36 "Opticmesh$WayFinder" "network" "LOpticmesh$Network;", Cond.fieldLink RX4 41 "Opticmesh$Network" "converters" "I", Cond.methodLink RX4 47 yX4_aim, Cond.instanceMethod yX4_aim, Cond.selects RX4 yX4_aim yX4_aim, Cond.code yX4_aim cX4_aim 4 none, Cond.fieldLink RX4 86 "Opticmesh$WayFinder" "target" "I", Cond.fieldLink RX4 89 "Opticmesh$WayFinder" "allowed" "I", Cond.fieldLink RX4 92 "Opticmesh$WayFinder" "converters" "I", Cond.fieldLink RX4 65 "Opticmesh$WayFinder" "keptCount" "I", Cond.methodLink RX4 51 yX4_walk, Cond.instanceMethod yX4_walk, Cond.selects RX4 yX4_walk yX4_walk, Cond.code yX4_walk cX4_walk 11 none, Cond.fieldLink RX4 9 "Opticmesh$WayFinder" "open" "[I", Cond.fieldLink RX4 15 "Opticmesh$WayFinder" "trail" "[I", Cond.fieldLink RX4 18 "Opticmesh$WayFinder" "openOnTrail" "[I", Cond.fieldLink RX4 21 "Opticmesh$WayFinder" "convertsBefore" "[Z", Cond.methodLink RX4 93 yX4_keep, Cond.instanceMethod yX4_keep, Cond.selects RX4 yX4_keep yX4_keep]
def wsX5_reroute_r5 : List Cond := [Cond.code yX4_keep cX4_keep 5 none, Cond.fieldLink RX4 27 "Opticmesh$WayFinder" "within" "[[I", Cond.fieldLink RX4 32 "Opticmesh$WayFinder" "kept" "[LOpticmesh$Way;", Cond.methodLink RX4 105 yX4_countConversionsBackwards, Cond.instanceMethod yX4_countConversionsBackwards, Cond.selects RX4 yX4_countConversionsBackwards yX4_countConversionsBackwards, Cond.code yX4_countConversionsBackwards cX4_countConversionsBackwards 4 none, Cond.methodLink RX4 122 yX4_leadingOn, Cond.instanceMethod yX4_leadingOn, Cond.selects RX4 yX4_leadingOn yX4_leadingOn, Cond.code yX4_leadingOn cX4_leadingOn 4 (some .int), Cond.methodLink RX4 109 yX3_start, Cond.instanceMethod yX3_start, Cond.selects RX3 yX3_start yX3_start, Cond.code yX3_start cX3_start 3 none, Cond.fieldLink RX3 13 "Opticmesh$Way" "length" "I", Cond.fieldLink RX3 16 "Opticmesh$Way" "conversions" "I", Cond.methodLink RX4 112 yX4_takeLowestWavelengths, Cond.instanceMethod yX4_takeLowestWavelengths, Cond.selects RX4 yX4_takeLowestWavelengths yX4_takeLowestWavelengths, Cond.code yX4_takeLowestWavelengths cX4_takeLowestWavelengths 10 none, Cond.static yX5_lowestIn, Cond.code yX5_lowestIn cX5_lowestIn 2 (some .int), Cond.methodLink RX4 119 yX3_append]
def wsX5_reroute_r6 : List Cond := [Cond.instanceMethod yX3_append, Cond.selects RX3 yX3_append yX3_append, Cond.code yX3_append cX3_append 3 none, Cond.methodLink RX4 97 yX2_acrossFrom, Cond.instanceMethod yX2_acrossFrom, Cond.selects RX2 yX2_acrossFrom yX2_acrossFrom, Cond.code yX2_acrossFrom cX2_acrossFrom 3 (some .int), Cond.fieldLink RX2 18 "Opticmesh$Network" "ones" "[I", Cond.fieldLink RX2 22 "Opticmesh$Network" "others" "[I", Cond.methodLink RX2 37 yX2_hasFibre, Cond.methodLink RX4 101 yX2_lengthOf, Cond.instanceMethod yX2_lengthOf, Cond.selects RX2 yX2_lengthOf yX2_lengthOf, Cond.code yX2_lengthOf cX2_lengthOf 2 (some .int), Cond.fieldLink RX2 25 "Opticmesh$Network" "lengths" "[I", Cond.methodLink RX4 55 yX4_pickFirst, Cond.instanceMethod yX4_pickFirst, Cond.selects RX4 yX4_pickFirst yX4_pickFirst, Cond.code yX4_pickFirst cX4_pickFirst 2 none, Cond.fieldLink RX4 58 "Opticmesh$WayFinder" "first" "LOpticmesh$Way;", Cond.fieldLink RX4 62 "Opticmesh$WayFinder" "second" "LOpticmesh$Way;", Cond.methodLink RX4 75 yX3_isAheadOf, Cond.instanceMethod yX3_isAheadOf, Cond.selects RX3 yX3_isAheadOf yX3_isAheadOf]
def wsX5_reroute_r7 : List Cond := [Cond.code yX3_isAheadOf cX3_isAheadOf 2 (some .boolean), Cond.methodLink RX5 228 yX3_become, Cond.instanceMethod yX3_become, Cond.selects RX3 yX3_become yX3_become, Cond.code yX3_become cX3_become 2 none]
def wsX5_reroute : List Cond := .code yX5_reroute cX5_reroute 4 (some .int) :: ((wsX5_reroute_r1 ++ (wsX5_reroute_r2 ++ (wsX5_reroute_r3 ++ (wsX5_reroute_r4 ++ (wsX5_reroute_r5 ++ (wsX5_reroute_r6 ++ wsX5_reroute_r7)))))) ++ wsX10 ++ wsX50 ++ wsX40 ++ wsX30 ++ wsX20 ++ (vx_atS RX5 80 "java/lang/IllegalStateException" ["java/lang/RuntimeException", "java/lang/Exception"]).filter goodWord ++ (vx_atS RX5 202 "java/lang/IndexOutOfBoundsException" ["java/lang/RuntimeException", "java/lang/Exception"]).filter goodWord)
def wsX5_canMerge_r1 : List Cond := [Cond.fieldLink RX5 12 "Opticmesh" "network" "LOpticmesh$Network;", Cond.fieldLink RX5 102 "Opticmesh$Network" "cutFibres" "I", Cond.fieldLink RX5 206 "Opticmesh$Light" "isProtected" "Z", Cond.fieldLink RX5 216 "Opticmesh$Light" "from" "I", Cond.fieldLink RX5 219 "Opticmesh$Light" "to" "I", Cond.fieldLink RX5 155 "Opticmesh$Light" "units" "I", Cond.methodLink RX5 188 yX1_isUp, Cond.instanceMethod yX1_isUp, Cond.selects RX1 yX1_isUp yX1_isUp, Cond.initialized RX1, Cond.code yX1_isUp cX1_isUp 2 (some .boolean), Cond.fieldLink RX1 10 "Opticmesh$Light" "first" "LOpticmesh$Way;", Cond.fieldLink RX1 44 "Opticmesh$Way" "fibres" "I", Cond.fieldLink RX1 36 "Opticmesh$Light" "isProtected" "Z", Cond.fieldLink RX1 16 "Opticmesh$Light" "second" "LOpticmesh$Way;", Cond.methodLink RX1 40 yX1_isGone, Cond.instanceMethod yX1_isGone, Cond.selects RX1 yX1_isGone yX1_isGone, Cond.code yX1_isGone cX1_isGone 1 (some .boolean), Cond.fieldLink RX1 29 "Opticmesh$Light" "units" "I", Cond.methodLink RX5 277 yX1_joins, Cond.instanceMethod yX1_joins, Cond.selects RX1 yX1_joins yX1_joins, Cond.code yX1_joins cX1_joins 3 (some .boolean)]
def wsX5_canMerge_r2 : List Cond := [Cond.fieldLink RX1 23 "Opticmesh$Light" "from" "I", Cond.fieldLink RX1 26 "Opticmesh$Light" "to" "I"]
def wsX5_canMerge : List Cond := .code yX5_canMerge cX5_canMerge 3 (some .boolean) :: ((wsX5_canMerge_r1 ++ wsX5_canMerge_r2) ++ wsX50 ++ wsX20 ++ wsX10 ++ wsX30)
def wsX5_handOver : List Cond := .code yX5_handOver cX5_handOver 4 none :: ([.fieldLink RX5 63 "Opticmesh" "requestCount" "I", .fieldLink RX5 41 "Opticmesh" "carriers" "[LOpticmesh$Light;", .fieldLink RX5 155 "Opticmesh$Light" "units" "I"] ++ wsX50 ++ wsX10)
def wsX5_merge_r1 : List Cond := [Cond.classLink RX5 76 "java/lang/IllegalStateException", Cond.initialized "java/lang/IllegalStateException", Cond.fieldLink RX5 59 "Opticmesh" "lightCount" "I", Cond.fieldLink RX5 34 "Opticmesh" "lightList" "[LOpticmesh$Light;", Cond.methodLink RX5 232 yX5_canMerge, Cond.instanceMethod yX5_canMerge, Cond.selects RX5 yX5_canMerge yX5_canMerge, Cond.initialized RX5, Cond.code yX5_canMerge cX5_canMerge 3 (some .boolean), Cond.fieldLink RX5 12 "Opticmesh" "network" "LOpticmesh$Network;", Cond.fieldLink RX5 102 "Opticmesh$Network" "cutFibres" "I", Cond.fieldLink RX5 206 "Opticmesh$Light" "isProtected" "Z", Cond.fieldLink RX5 216 "Opticmesh$Light" "from" "I", Cond.fieldLink RX5 219 "Opticmesh$Light" "to" "I", Cond.fieldLink RX5 155 "Opticmesh$Light" "units" "I", Cond.methodLink RX5 188 yX1_isUp, Cond.instanceMethod yX1_isUp, Cond.selects RX1 yX1_isUp yX1_isUp, Cond.initialized RX1, Cond.code yX1_isUp cX1_isUp 2 (some .boolean), Cond.fieldLink RX1 10 "Opticmesh$Light" "first" "LOpticmesh$Way;", Cond.fieldLink RX1 44 "Opticmesh$Way" "fibres" "I", Cond.fieldLink RX1 36 "Opticmesh$Light" "isProtected" "Z", Cond.fieldLink RX1 16 "Opticmesh$Light" "second" "LOpticmesh$Way;"]
def wsX5_merge_r2 : List Cond := [Cond.methodLink RX1 40 yX1_isGone, Cond.instanceMethod yX1_isGone, Cond.selects RX1 yX1_isGone yX1_isGone, Cond.code yX1_isGone cX1_isGone 1 (some .boolean), Cond.fieldLink RX1 29 "Opticmesh$Light" "units" "I", Cond.methodLink RX5 277 yX1_joins, Cond.instanceMethod yX1_joins, Cond.selects RX1 yX1_joins yX1_joins, Cond.code yX1_joins cX1_joins 3 (some .boolean), Cond.fieldLink RX1 23 "Opticmesh$Light" "from" "I", Cond.fieldLink RX1 26 "Opticmesh$Light" "to" "I", Cond.methodLink RX5 236 yX5_handOver, Cond.instanceMethod yX5_handOver, Cond.selects RX5 yX5_handOver yX5_handOver, Cond.code yX5_handOver cX5_handOver 4 none, Cond.fieldLink RX5 63 "Opticmesh" "requestCount" "I", Cond.fieldLink RX5 41 "Opticmesh" "carriers" "[LOpticmesh$Light;"]
def wsX5_merge : List Cond := .code yX5_merge cX5_merge 3 (some .int) :: ((wsX5_merge_r1 ++ wsX5_merge_r2) ++ wsX50 ++ wsX20 ++ wsX10 ++ wsX30 ++ (vx_atS RX5 80 "java/lang/IllegalStateException" ["java/lang/RuntimeException", "java/lang/Exception"]).filter goodWord)
def wsX5_lowerWavelength_r1 : List Cond := [Cond.fieldLink RX5 298 "Opticmesh$Way" "conversions" "I", Cond.fieldLink RX5 12 "Opticmesh" "network" "LOpticmesh$Network;", Cond.fieldLink RX5 116 "Opticmesh$Network" "fibreCount" "I", Cond.methodLink RX5 301 yX3_uses, Cond.instanceMethod yX3_uses, Cond.selects RX3 yX3_uses yX3_uses, Cond.initialized RX3, Cond.code yX3_uses cX3_uses 2 (some .boolean), Cond.fieldLink RX3 19 "Opticmesh$Way" "fibres" "I", Cond.methodLink RX5 119 yX5_wavelengthsUsed, Cond.instanceMethod yX5_wavelengthsUsed, Cond.selects RX5 yX5_wavelengthsUsed yX5_wavelengthsUsed, Cond.initialized RX5, Cond.code yX5_wavelengthsUsed cX5_wavelengthsUsed 5 (some .int), Cond.fieldLink RX5 59 "Opticmesh" "lightCount" "I", Cond.fieldLink RX5 34 "Opticmesh" "lightList" "[LOpticmesh$Light;", Cond.methodLink RX5 112 yX1_wavelengthsOn, Cond.instanceMethod yX1_wavelengthsOn, Cond.selects RX1 yX1_wavelengthsOn yX1_wavelengthsOn, Cond.initialized RX1, Cond.code yX1_wavelengthsOn cX1_wavelengthsOn 3 (some .int), Cond.fieldLink RX1 10 "Opticmesh$Light" "first" "LOpticmesh$Way;", Cond.fieldLink RX1 36 "Opticmesh$Light" "isProtected" "Z", Cond.fieldLink RX1 16 "Opticmesh$Light" "second" "LOpticmesh$Way;"]
def wsX5_lowerWavelength_r2 : List Cond := [Cond.methodLink RX1 40 yX1_isGone, Cond.instanceMethod yX1_isGone, Cond.selects RX1 yX1_isGone yX1_isGone, Cond.code yX1_isGone cX1_isGone 1 (some .boolean), Cond.fieldLink RX1 29 "Opticmesh$Light" "units" "I", Cond.methodLink RX1 47 yX3_wavelengthsOn, Cond.instanceMethod yX3_wavelengthsOn, Cond.selects RX3 yX3_wavelengthsOn yX3_wavelengthsOn, Cond.code yX3_wavelengthsOn cX3_wavelengthsOn 5 (some .int), Cond.fieldLink RX3 7 "Opticmesh$Way" "count" "I", Cond.methodLink RX3 30 yX3_uses, Cond.methodLink RX3 26 yX3_channelAt, Cond.instanceMethod yX3_channelAt, Cond.selects RX3 yX3_channelAt yX3_channelAt, Cond.code yX3_channelAt cX3_channelAt 2 (some .int), Cond.fieldLink RX3 22 "Opticmesh$Way" "channelBytes" "J", Cond.methodLink RX5 304 yX5_lowestIn, Cond.static yX5_lowestIn, Cond.code yX5_lowestIn cX5_lowestIn 2 (some .int), Cond.methodLink RX5 307 yX3_firstWavelength, Cond.instanceMethod yX3_firstWavelength, Cond.selects RX3 yX3_firstWavelength yX3_firstWavelength, Cond.code yX3_firstWavelength cX3_firstWavelength 1 (some .int), Cond.methodLink RX5 310 yX3_shiftTo]
def wsX5_lowerWavelength_r3 : List Cond := [Cond.instanceMethod yX3_shiftTo, Cond.selects RX3 yX3_shiftTo yX3_shiftTo, Cond.code yX3_shiftTo cX3_shiftTo 5 none, Cond.methodLink RX3 34 yX3_firstWavelength]
def wsX5_lowerWavelength : List Cond := .code yX5_lowerWavelength cX5_lowerWavelength 4 (some .boolean) :: ((wsX5_lowerWavelength_r1 ++ (wsX5_lowerWavelength_r2 ++ wsX5_lowerWavelength_r3)) ++ wsX30 ++ wsX50 ++ wsX20 ++ wsX10)
def wsX5_move_r1 : List Cond := [Cond.classLink RX5 76 "java/lang/IllegalStateException", Cond.initialized "java/lang/IllegalStateException", Cond.fieldLink RX5 59 "Opticmesh" "lightCount" "I", Cond.fieldLink RX5 34 "Opticmesh" "lightList" "[LOpticmesh$Light;", Cond.methodLink RX5 242 yX1_wayAt, Cond.instanceMethod yX1_wayAt, Cond.selects RX1 yX1_wayAt yX1_wayAt, Cond.initialized RX1, Cond.code yX1_wayAt cX1_wayAt 2 (some (.object "Opticmesh$Way")), Cond.fieldLink RX1 10 "Opticmesh$Light" "first" "LOpticmesh$Way;", Cond.fieldLink RX1 36 "Opticmesh$Light" "isProtected" "Z", Cond.fieldLink RX1 16 "Opticmesh$Light" "second" "LOpticmesh$Way;", Cond.methodLink RX1 40 yX1_isGone, Cond.instanceMethod yX1_isGone, Cond.selects RX1 yX1_isGone yX1_isGone, Cond.code yX1_isGone cX1_isGone 1 (some .boolean), Cond.fieldLink RX1 29 "Opticmesh$Light" "units" "I", Cond.methodLink RX5 246 yX5_lowerWavelength, Cond.instanceMethod yX5_lowerWavelength, Cond.selects RX5 yX5_lowerWavelength yX5_lowerWavelength, Cond.initialized RX5, Cond.code yX5_lowerWavelength cX5_lowerWavelength 4 (some .boolean), Cond.fieldLink RX5 298 "Opticmesh$Way" "conversions" "I", Cond.fieldLink RX5 12 "Opticmesh" "network" "LOpticmesh$Network;"]
def wsX5_move_r2 : List Cond := [Cond.fieldLink RX5 116 "Opticmesh$Network" "fibreCount" "I", Cond.methodLink RX5 301 yX3_uses, Cond.instanceMethod yX3_uses, Cond.selects RX3 yX3_uses yX3_uses, Cond.initialized RX3, Cond.code yX3_uses cX3_uses 2 (some .boolean), Cond.fieldLink RX3 19 "Opticmesh$Way" "fibres" "I", Cond.methodLink RX5 119 yX5_wavelengthsUsed, Cond.instanceMethod yX5_wavelengthsUsed, Cond.selects RX5 yX5_wavelengthsUsed yX5_wavelengthsUsed, Cond.code yX5_wavelengthsUsed cX5_wavelengthsUsed 5 (some .int), Cond.methodLink RX5 112 yX1_wavelengthsOn, Cond.instanceMethod yX1_wavelengthsOn, Cond.selects RX1 yX1_wavelengthsOn yX1_wavelengthsOn, Cond.code yX1_wavelengthsOn cX1_wavelengthsOn 3 (some .int), Cond.methodLink RX1 47 yX3_wavelengthsOn, Cond.instanceMethod yX3_wavelengthsOn, Cond.selects RX3 yX3_wavelengthsOn yX3_wavelengthsOn, Cond.code yX3_wavelengthsOn cX3_wavelengthsOn 5 (some .int), Cond.fieldLink RX3 7 "Opticmesh$Way" "count" "I", Cond.methodLink RX3 30 yX3_uses, Cond.methodLink RX3 26 yX3_channelAt, Cond.instanceMethod yX3_channelAt, Cond.selects RX3 yX3_channelAt yX3_channelAt]
def wsX5_move_r3 : List Cond := [Cond.code yX3_channelAt cX3_channelAt 2 (some .int), Cond.fieldLink RX3 22 "Opticmesh$Way" "channelBytes" "J", Cond.methodLink RX5 304 yX5_lowestIn, Cond.static yX5_lowestIn, Cond.code yX5_lowestIn cX5_lowestIn 2 (some .int), Cond.methodLink RX5 307 yX3_firstWavelength, Cond.instanceMethod yX3_firstWavelength, Cond.selects RX3 yX3_firstWavelength yX3_firstWavelength, Cond.code yX3_firstWavelength cX3_firstWavelength 1 (some .int), Cond.methodLink RX5 310 yX3_shiftTo, Cond.instanceMethod yX3_shiftTo, Cond.selects RX3 yX3_shiftTo yX3_shiftTo, Cond.code yX3_shiftTo cX3_shiftTo 5 none, Cond.methodLink RX3 34 yX3_firstWavelength]
def wsX5_move : List Cond := .code yX5_move cX5_move 3 (some .int) :: ((wsX5_move_r1 ++ (wsX5_move_r2 ++ wsX5_move_r3)) ++ wsX50 ++ wsX10 ++ wsX30 ++ wsX20 ++ (vx_atS RX5 80 "java/lang/IllegalStateException" ["java/lang/RuntimeException", "java/lang/Exception"]).filter goodWord)
def wsX5_wavelengthsNeeded_r1 : List Cond := [Cond.fieldLink RX5 28 "Opticmesh" "colouring" "LOpticmesh$Colouring;", Cond.fieldLink RX5 59 "Opticmesh" "lightCount" "I", Cond.fieldLink RX5 34 "Opticmesh" "lightList" "[LOpticmesh$Light;", Cond.fieldLink RX5 227 "Opticmesh$Light" "first" "LOpticmesh$Way;", Cond.fieldLink RX5 255 "Opticmesh$Way" "fibres" "I", Cond.methodLink RX5 252 yX0_clear, Cond.instanceMethod yX0_clear, Cond.selects RX0 yX0_clear yX0_clear, Cond.initialized RX0, Cond.code yX0_clear cX0_clear 1 none, Cond.fieldLink RX0 18 "Opticmesh$Colouring" "count" "I", Cond.methodLink RX5 184 yX1_isGone, Cond.instanceMethod yX1_isGone, Cond.selects RX1 yX1_isGone yX1_isGone, Cond.initialized RX1, Cond.code yX1_isGone cX1_isGone 1 (some .boolean), Cond.fieldLink RX1 29 "Opticmesh$Light" "units" "I", Cond.methodLink RX5 258 yX0_add, Cond.instanceMethod yX0_add, Cond.selects RX0 yX0_add yX0_add, Cond.code yX0_add cX0_add 2 none, Cond.fieldLink RX0 9 "Opticmesh$Colouring" "fibres" "[I", Cond.methodLink RX5 261 yX0_leastColours, Cond.instanceMethod yX0_leastColours]
def wsX5_wavelengthsNeeded_r2 : List Cond := [Cond.selects RX0 yX0_leastColours yX0_leastColours, Cond.code yX0_leastColours cX0_leastColours 2 (some .int), Cond.methodLink RX0 22 yX0_waysOnBusiestFibre, Cond.instanceMethod yX0_waysOnBusiestFibre, Cond.selects RX0 yX0_waysOnBusiestFibre yX0_waysOnBusiestFibre, Cond.code yX0_waysOnBusiestFibre cX0_waysOnBusiestFibre 5 (some .int), Cond.methodLink RX0 30 Lib.Math.max.name, Cond.static Lib.Math.max.name, Cond.initialized "java/lang/Math", Cond.code Lib.Math.max.name Lib.Math.max.code 2 (some .int), Cond.methodLink RX0 26 yX0_canPaint, Cond.instanceMethod yX0_canPaint, Cond.selects RX0 yX0_canPaint yX0_canPaint, Cond.code yX0_canPaint cX0_canPaint 9 (some .boolean), Cond.fieldLink RX0 15 "Opticmesh$Colouring" "fibresTaken" "[I", Cond.methodLink RX0 36 yX0_mostBarred, Cond.instanceMethod yX0_mostBarred, Cond.selects RX0 yX0_mostBarred yX0_mostBarred, Cond.code yX0_mostBarred cX0_mostBarred 8 (some .int)]
def wsX5_wavelengthsNeeded : List Cond := .code yX5_wavelengthsNeeded cX5_wavelengthsNeeded 2 (some .int) :: ((wsX5_wavelengthsNeeded_r1 ++ wsX5_wavelengthsNeeded_r2) ++ wsX50 ++ wsX10 ++ wsX30 ++ wsX00)
def wsX6_empties : List Cond := .code yX6_empties cX6_empties 2 none :: ([.fieldLink RX6 90 "OpticmeshModel" "fibres" "I", .fieldLink RX6 93 "OpticmeshModel" "requests" "I", .fieldLink RX6 96 "OpticmeshModel" "lights" "I", .fieldLink RX6 16 "OpticmeshModel" "doConvert" "[Z", .fieldLink RX6 33 "OpticmeshModel" "used" "[I"] ++ wsX60)
def wsX6_init_r1 : List Cond := [Cond.methodLink RX6 1 objectInit, Cond.instanceMethod objectInit, Cond.code objectInit ⟨#[0xb1]⟩ 1 none, Cond.fieldLink RX6 7 "OpticmeshModel" "nodes" "I", Cond.fieldLink RX6 13 "OpticmeshModel" "wavelengths" "I", Cond.arrayClass .boolean, Cond.fieldLink RX6 16 "OpticmeshModel" "doConvert" "[Z", Cond.arrayClass .int, Cond.fieldLink RX6 20 "OpticmeshModel" "ones" "[I", Cond.fieldLink RX6 24 "OpticmeshModel" "others" "[I", Cond.fieldLink RX6 27 "OpticmeshModel" "lengths" "[I", Cond.fieldLink RX6 30 "OpticmeshModel" "areCut" "[Z", Cond.fieldLink RX6 33 "OpticmeshModel" "used" "[I", Cond.fieldLink RX6 36 "OpticmeshModel" "carriers" "[I", Cond.fieldLink RX6 39 "OpticmeshModel" "demands" "[I", Cond.fieldLink RX6 42 "OpticmeshModel" "starts" "[I", Cond.fieldLink RX6 45 "OpticmeshModel" "ends" "[I", Cond.fieldLink RX6 48 "OpticmeshModel" "ways" "[I", Cond.fieldLink RX6 51 "OpticmeshModel" "laid" "[I", Cond.fieldLink RX6 54 "OpticmeshModel" "first" "[I", Cond.fieldLink RX6 57 "OpticmeshModel" "second" "[I", Cond.fieldLink RX6 60 "OpticmeshModel" "trial" "[I", Cond.fieldLink RX6 63 "OpticmeshModel" "other" "[I", Cond.fieldLink RX6 66 "OpticmeshModel" "best" "[I"]
def wsX6_init_r2 : List Cond := [Cond.fieldLink RX6 69 "OpticmeshModel" "bestOther" "[I", Cond.fieldLink RX6 72 "OpticmeshModel" "costs" "[I", Cond.fieldLink RX6 75 "OpticmeshModel" "alive" "[I", Cond.fieldLink RX6 78 "OpticmeshModel" "crossed" "[I", Cond.fieldLink RX6 81 "OpticmeshModel" "needed" "[I", Cond.methodLink RX6 84 yX6_empties, Cond.instanceMethod yX6_empties, Cond.selects RX6 yX6_empties yX6_empties, Cond.initialized RX6, Cond.code yX6_empties cX6_empties 2 none, Cond.fieldLink RX6 90 "OpticmeshModel" "fibres" "I", Cond.fieldLink RX6 93 "OpticmeshModel" "requests" "I", Cond.fieldLink RX6 96 "OpticmeshModel" "lights" "I"]
def wsX6_init : List Cond := .code yX6_init cX6_init 1 none :: ((wsX6_init_r1 ++ wsX6_init_r2) ++ wsX60)
def wsX6_thrown : List Cond := .code yX6_thrown cX6_thrown 1 (some .int) :: ([.fieldLink RX6 87 "OpticmeshModel" "thrown" "I"] ++ wsX60)
def wsX6_holds : List Cond := .code yX6_holds cX6_holds 2 (some .boolean) :: ([.fieldLink RX6 87 "OpticmeshModel" "thrown" "I"] ++ wsX60)
def wsX6_in : List Cond := .code yX6_in cX6_in 3 (some .boolean) :: ([])
def wsX6_areTwo : List Cond := .code yX6_areTwo cX6_areTwo 3 (some .boolean) :: ([.fieldLink RX6 7 "OpticmeshModel" "nodes" "I", .methodLink RX6 99 yX6_in, .static yX6_in, .initialized RX6, .code yX6_in cX6_in 3 (some .boolean)] ++ wsX60)
def wsX6_isFibre : List Cond := .code yX6_isFibre cX6_isFibre 2 (some .boolean) :: ([.fieldLink RX6 90 "OpticmeshModel" "fibres" "I", .methodLink RX6 99 yX6_in, .static yX6_in, .initialized RX6, .code yX6_in cX6_in 3 (some .boolean)] ++ wsX60)
def wsX6_isLight : List Cond := .code yX6_isLight cX6_isLight 2 (some .boolean) :: ([.fieldLink RX6 96 "OpticmeshModel" "lights" "I", .methodLink RX6 99 yX6_in, .static yX6_in, .initialized RX6, .code yX6_in cX6_in 3 (some .boolean)] ++ wsX60)
def wsX6_begin : List Cond := .code yX6_begin cX6_begin 3 none :: ([.fieldLink RX6 7 "OpticmeshModel" "nodes" "I", .fieldLink RX6 13 "OpticmeshModel" "wavelengths" "I", .methodLink RX6 99 yX6_in, .static yX6_in, .initialized RX6, .code yX6_in cX6_in 3 (some .boolean), .methodLink RX6 103 yX6_holds, .instanceMethod yX6_holds, .selects RX6 yX6_holds yX6_holds, .code yX6_holds cX6_holds 2 (some .boolean), .fieldLink RX6 87 "OpticmeshModel" "thrown" "I", .methodLink RX6 84 yX6_empties, .instanceMethod yX6_empties, .selects RX6 yX6_empties yX6_empties, .code yX6_empties cX6_empties 2 none, .fieldLink RX6 90 "OpticmeshModel" "fibres" "I", .fieldLink RX6 93 "OpticmeshModel" "requests" "I", .fieldLink RX6 96 "OpticmeshModel" "lights" "I", .fieldLink RX6 16 "OpticmeshModel" "doConvert" "[Z", .fieldLink RX6 33 "OpticmeshModel" "used" "[I"] ++ wsX60)
def wsX6_addFibre : List Cond := .code yX6_addFibre cX6_addFibre 4 (some .int) :: ([.fieldLink RX6 90 "OpticmeshModel" "fibres" "I", .fieldLink RX6 20 "OpticmeshModel" "ones" "[I", .fieldLink RX6 24 "OpticmeshModel" "others" "[I", .fieldLink RX6 27 "OpticmeshModel" "lengths" "[I", .fieldLink RX6 30 "OpticmeshModel" "areCut" "[Z", .methodLink RX6 107 yX6_areTwo, .instanceMethod yX6_areTwo, .selects RX6 yX6_areTwo yX6_areTwo, .initialized RX6, .code yX6_areTwo cX6_areTwo 3 (some .boolean), .fieldLink RX6 7 "OpticmeshModel" "nodes" "I", .methodLink RX6 99 yX6_in, .static yX6_in, .code yX6_in cX6_in 3 (some .boolean), .methodLink RX6 103 yX6_holds, .instanceMethod yX6_holds, .selects RX6 yX6_holds yX6_holds, .code yX6_holds cX6_holds 2 (some .boolean), .fieldLink RX6 87 "OpticmeshModel" "thrown" "I"] ++ wsX60)
def wsX6_toggleConverter : List Cond := .code yX6_toggleConverter cX6_toggleConverter 2 (some .boolean) :: ([.fieldLink RX6 7 "OpticmeshModel" "nodes" "I", .fieldLink RX6 16 "OpticmeshModel" "doConvert" "[Z", .methodLink RX6 99 yX6_in, .static yX6_in, .initialized RX6, .code yX6_in cX6_in 3 (some .boolean), .methodLink RX6 103 yX6_holds, .instanceMethod yX6_holds, .selects RX6 yX6_holds yX6_holds, .code yX6_holds cX6_holds 2 (some .boolean), .fieldLink RX6 87 "OpticmeshModel" "thrown" "I"] ++ wsX60)
def wsX6_way : List Cond := .code yX6_way cX6_way 4 (some .int) :: ([.fieldLink RX6 51 "OpticmeshModel" "laid" "[I"] ++ wsX60)
def wsX6_isUp : List Cond := .code yX6_isUp cX6_isUp 5 (some .boolean) :: ([.fieldLink RX6 48 "OpticmeshModel" "ways" "[I", .fieldLink RX6 30 "OpticmeshModel" "areCut" "[Z", .methodLink RX6 178 yX6_way, .instanceMethod yX6_way, .selects RX6 yX6_way yX6_way, .initialized RX6, .code yX6_way cX6_way 4 (some .int), .fieldLink RX6 51 "OpticmeshModel" "laid" "[I"] ++ wsX60)
def wsX6_numberOfUp : List Cond := .code yX6_numberOfUp cX6_numberOfUp 3 (some .int) :: ([.fieldLink RX6 96 "OpticmeshModel" "lights" "I", .methodLink RX6 111 yX6_isUp, .instanceMethod yX6_isUp, .selects RX6 yX6_isUp yX6_isUp, .initialized RX6, .code yX6_isUp cX6_isUp 5 (some .boolean), .fieldLink RX6 48 "OpticmeshModel" "ways" "[I", .fieldLink RX6 30 "OpticmeshModel" "areCut" "[Z", .methodLink RX6 178 yX6_way, .instanceMethod yX6_way, .selects RX6 yX6_way yX6_way, .code yX6_way cX6_way 4 (some .int), .fieldLink RX6 51 "OpticmeshModel" "laid" "[I"] ++ wsX60)
def wsX6_cut_r1 : List Cond := [Cond.fieldLink RX6 30 "OpticmeshModel" "areCut" "[Z", Cond.methodLink RX6 114 yX6_isFibre, Cond.instanceMethod yX6_isFibre, Cond.selects RX6 yX6_isFibre yX6_isFibre, Cond.initialized RX6, Cond.code yX6_isFibre cX6_isFibre 2 (some .boolean), Cond.fieldLink RX6 90 "OpticmeshModel" "fibres" "I", Cond.methodLink RX6 99 yX6_in, Cond.static yX6_in, Cond.code yX6_in cX6_in 3 (some .boolean), Cond.methodLink RX6 103 yX6_holds, Cond.instanceMethod yX6_holds, Cond.selects RX6 yX6_holds yX6_holds, Cond.code yX6_holds cX6_holds 2 (some .boolean), Cond.fieldLink RX6 87 "OpticmeshModel" "thrown" "I", Cond.methodLink RX6 117 yX6_numberOfUp, Cond.instanceMethod yX6_numberOfUp, Cond.selects RX6 yX6_numberOfUp yX6_numberOfUp, Cond.code yX6_numberOfUp cX6_numberOfUp 3 (some .int), Cond.fieldLink RX6 96 "OpticmeshModel" "lights" "I", Cond.methodLink RX6 111 yX6_isUp, Cond.instanceMethod yX6_isUp, Cond.selects RX6 yX6_isUp yX6_isUp, Cond.code yX6_isUp cX6_isUp 5 (some .boolean)]
def wsX6_cut_r2 : List Cond := [Cond.fieldLink RX6 48 "OpticmeshModel" "ways" "[I", Cond.methodLink RX6 178 yX6_way, Cond.instanceMethod yX6_way, Cond.selects RX6 yX6_way yX6_way, Cond.code yX6_way cX6_way 4 (some .int), Cond.fieldLink RX6 51 "OpticmeshModel" "laid" "[I"]
def wsX6_cut : List Cond := .code yX6_cut cX6_cut 3 (some .int) :: ((wsX6_cut_r1 ++ wsX6_cut_r2) ++ wsX60)
def wsX6_repair_r1 : List Cond := [Cond.fieldLink RX6 30 "OpticmeshModel" "areCut" "[Z", Cond.methodLink RX6 114 yX6_isFibre, Cond.instanceMethod yX6_isFibre, Cond.selects RX6 yX6_isFibre yX6_isFibre, Cond.initialized RX6, Cond.code yX6_isFibre cX6_isFibre 2 (some .boolean), Cond.fieldLink RX6 90 "OpticmeshModel" "fibres" "I", Cond.methodLink RX6 99 yX6_in, Cond.static yX6_in, Cond.code yX6_in cX6_in 3 (some .boolean), Cond.methodLink RX6 103 yX6_holds, Cond.instanceMethod yX6_holds, Cond.selects RX6 yX6_holds yX6_holds, Cond.code yX6_holds cX6_holds 2 (some .boolean), Cond.fieldLink RX6 87 "OpticmeshModel" "thrown" "I", Cond.methodLink RX6 117 yX6_numberOfUp, Cond.instanceMethod yX6_numberOfUp, Cond.selects RX6 yX6_numberOfUp yX6_numberOfUp, Cond.code yX6_numberOfUp cX6_numberOfUp 3 (some .int), Cond.fieldLink RX6 96 "OpticmeshModel" "lights" "I", Cond.methodLink RX6 111 yX6_isUp, Cond.instanceMethod yX6_isUp, Cond.selects RX6 yX6_isUp yX6_isUp, Cond.code yX6_isUp cX6_isUp 5 (some .boolean)]
def wsX6_repair_r2 : List Cond := [Cond.fieldLink RX6 48 "OpticmeshModel" "ways" "[I", Cond.methodLink RX6 178 yX6_way, Cond.instanceMethod yX6_way, Cond.selects RX6 yX6_way yX6_way, Cond.code yX6_way cX6_way 4 (some .int), Cond.fieldLink RX6 51 "OpticmeshModel" "laid" "[I"]
def wsX6_repair : List Cond := .code yX6_repair cX6_repair 3 (some .int) :: ((wsX6_repair_r1 ++ wsX6_repair_r2) ++ wsX60)
def wsX6_lightOn : List Cond := .code yX6_lightOn cX6_lightOn 3 (some .int) :: ([.fieldLink RX6 13 "OpticmeshModel" "wavelengths" "I", .fieldLink RX6 33 "OpticmeshModel" "used" "[I", .methodLink RX6 114 yX6_isFibre, .instanceMethod yX6_isFibre, .selects RX6 yX6_isFibre yX6_isFibre, .initialized RX6, .code yX6_isFibre cX6_isFibre 2 (some .boolean), .fieldLink RX6 90 "OpticmeshModel" "fibres" "I", .methodLink RX6 99 yX6_in, .static yX6_in, .code yX6_in cX6_in 3 (some .boolean), .methodLink RX6 103 yX6_holds, .instanceMethod yX6_holds, .selects RX6 yX6_holds yX6_holds, .code yX6_holds cX6_holds 2 (some .boolean), .fieldLink RX6 87 "OpticmeshModel" "thrown" "I"] ++ wsX60)
def wsX6_usedOn : List Cond := .code yX6_usedOn cX6_usedOn 4 (some .int) :: ([.fieldLink RX6 13 "OpticmeshModel" "wavelengths" "I", .fieldLink RX6 33 "OpticmeshModel" "used" "[I"] ++ wsX60)
def wsX6_load : List Cond := .code yX6_load cX6_load 3 (some .int) :: ([.fieldLink RX6 87 "OpticmeshModel" "thrown" "I", .fieldLink RX6 90 "OpticmeshModel" "fibres" "I", .methodLink RX6 121 yX6_usedOn, .instanceMethod yX6_usedOn, .selects RX6 yX6_usedOn yX6_usedOn, .initialized RX6, .code yX6_usedOn cX6_usedOn 4 (some .int), .fieldLink RX6 13 "OpticmeshModel" "wavelengths" "I", .fieldLink RX6 33 "OpticmeshModel" "used" "[I"] ++ wsX60)
def wsX6_usage : List Cond := .code yX6_usage cX6_usage 3 (some .float) :: ([.fieldLink RX6 90 "OpticmeshModel" "fibres" "I", .fieldLink RX6 13 "OpticmeshModel" "wavelengths" "I", .methodLink RX6 103 yX6_holds, .instanceMethod yX6_holds, .selects RX6 yX6_holds yX6_holds, .initialized RX6, .code yX6_holds cX6_holds 2 (some .boolean), .fieldLink RX6 87 "OpticmeshModel" "thrown" "I", .methodLink RX6 121 yX6_usedOn, .instanceMethod yX6_usedOn, .selects RX6 yX6_usedOn yX6_usedOn, .code yX6_usedOn cX6_usedOn 4 (some .int), .fieldLink RX6 33 "OpticmeshModel" "used" "[I"] ++ wsX60)
def wsX6_sets : List Cond := .code yX6_sets cX6_sets 2 none :: ([])
def wsX6_isStep : List Cond := .code yX6_isStep cX6_isStep 4 (some .boolean) :: ([.fieldLink RX6 20 "OpticmeshModel" "ones" "[I", .fieldLink RX6 24 "OpticmeshModel" "others" "[I"] ++ wsX60)
def wsX6_goesOn : List Cond := .code yX6_goesOn cX6_goesOn 7 (some .boolean) :: ([.fieldLink RX6 90 "OpticmeshModel" "fibres" "I", .fieldLink RX6 20 "OpticmeshModel" "ones" "[I", .fieldLink RX6 24 "OpticmeshModel" "others" "[I", .methodLink RX6 125 yX6_isStep, .instanceMethod yX6_isStep, .selects RX6 yX6_isStep yX6_isStep, .initialized RX6, .code yX6_isStep cX6_isStep 4 (some .boolean)] ++ wsX60)
def wsX6_free : List Cond := .code yX6_free cX6_free 6 (some .int) :: ([.fieldLink RX6 13 "OpticmeshModel" "wavelengths" "I", .fieldLink RX6 33 "OpticmeshModel" "used" "[I", .fieldLink RX6 30 "OpticmeshModel" "areCut" "[Z"] ++ wsX60)
def wsX6_cost : List Cond := .code yX6_cost cX6_cost 8 (some .int) :: ([.fieldLink RX6 72 "OpticmeshModel" "costs" "[I", .fieldLink RX6 13 "OpticmeshModel" "wavelengths" "I", .fieldLink RX6 16 "OpticmeshModel" "doConvert" "[Z"] ++ wsX60)
def wsX6_follows : List Cond := .code yX6_follows cX6_follows 6 (some .int) :: ([.fieldLink RX6 13 "OpticmeshModel" "wavelengths" "I", .fieldLink RX6 16 "OpticmeshModel" "doConvert" "[Z", .fieldLink RX6 72 "OpticmeshModel" "costs" "[I"] ++ wsX60)
def wsX6_lays : List Cond := .code yX6_lays cX6_lays 9 (some .boolean) :: ([.fieldLink RX6 13 "OpticmeshModel" "wavelengths" "I", .fieldLink RX6 72 "OpticmeshModel" "costs" "[I", .fieldLink RX6 27 "OpticmeshModel" "lengths" "[I", .methodLink RX6 129 yX6_free, .instanceMethod yX6_free, .selects RX6 yX6_free yX6_free, .initialized RX6, .code yX6_free cX6_free 6 (some .int), .fieldLink RX6 33 "OpticmeshModel" "used" "[I", .fieldLink RX6 30 "OpticmeshModel" "areCut" "[Z", .methodLink RX6 133 yX6_cost, .instanceMethod yX6_cost, .selects RX6 yX6_cost yX6_cost, .code yX6_cost cX6_cost 8 (some .int), .fieldLink RX6 16 "OpticmeshModel" "doConvert" "[Z", .methodLink RX6 137 yX6_follows, .instanceMethod yX6_follows, .selects RX6 yX6_follows yX6_follows, .code yX6_follows cX6_follows 6 (some .int)] ++ wsX60)
def wsX6_isAhead : List Cond := .code yX6_isAhead cX6_isAhead 3 (some .boolean) :: ([])
def wsX6_copies : List Cond := .code yX6_copies cX6_copies 3 none :: ([])
def wsX6_finds_r1 : List Cond := [Cond.fieldLink RX6 66 "OpticmeshModel" "best" "[I", Cond.fieldLink RX6 54 "OpticmeshModel" "first" "[I", Cond.fieldLink RX6 60 "OpticmeshModel" "trial" "[I", Cond.methodLink RX6 141 yX6_sets, Cond.static yX6_sets, Cond.initialized RX6, Cond.code yX6_sets cX6_sets 2 none, Cond.methodLink RX6 145 yX6_goesOn, Cond.instanceMethod yX6_goesOn, Cond.selects RX6 yX6_goesOn yX6_goesOn, Cond.code yX6_goesOn cX6_goesOn 7 (some .boolean), Cond.fieldLink RX6 90 "OpticmeshModel" "fibres" "I", Cond.fieldLink RX6 20 "OpticmeshModel" "ones" "[I", Cond.fieldLink RX6 24 "OpticmeshModel" "others" "[I", Cond.methodLink RX6 125 yX6_isStep, Cond.instanceMethod yX6_isStep, Cond.selects RX6 yX6_isStep yX6_isStep, Cond.code yX6_isStep cX6_isStep 4 (some .boolean), Cond.methodLink RX6 149 yX6_lays, Cond.instanceMethod yX6_lays, Cond.selects RX6 yX6_lays yX6_lays, Cond.code yX6_lays cX6_lays 9 (some .boolean), Cond.fieldLink RX6 13 "OpticmeshModel" "wavelengths" "I", Cond.fieldLink RX6 72 "OpticmeshModel" "costs" "[I"]
def wsX6_finds_r2 : List Cond := [Cond.fieldLink RX6 27 "OpticmeshModel" "lengths" "[I", Cond.methodLink RX6 129 yX6_free, Cond.instanceMethod yX6_free, Cond.selects RX6 yX6_free yX6_free, Cond.code yX6_free cX6_free 6 (some .int), Cond.fieldLink RX6 33 "OpticmeshModel" "used" "[I", Cond.fieldLink RX6 30 "OpticmeshModel" "areCut" "[Z", Cond.methodLink RX6 133 yX6_cost, Cond.instanceMethod yX6_cost, Cond.selects RX6 yX6_cost yX6_cost, Cond.code yX6_cost cX6_cost 8 (some .int), Cond.fieldLink RX6 16 "OpticmeshModel" "doConvert" "[Z", Cond.methodLink RX6 137 yX6_follows, Cond.instanceMethod yX6_follows, Cond.selects RX6 yX6_follows yX6_follows, Cond.code yX6_follows cX6_follows 6 (some .int), Cond.methodLink RX6 153 yX6_isAhead, Cond.static yX6_isAhead, Cond.code yX6_isAhead cX6_isAhead 3 (some .boolean), Cond.methodLink RX6 157 yX6_copies, Cond.static yX6_copies, Cond.code yX6_copies cX6_copies 3 none]
def wsX6_finds : List Cond := .code yX6_finds cX6_finds 5 (some .boolean) :: ((wsX6_finds_r1 ++ wsX6_finds_r2) ++ wsX60)
def wsX6_findsOneWavelength_r1 : List Cond := [Cond.fieldLink RX6 13 "OpticmeshModel" "wavelengths" "I", Cond.methodLink RX6 161 yX6_finds, Cond.instanceMethod yX6_finds, Cond.selects RX6 yX6_finds yX6_finds, Cond.initialized RX6, Cond.code yX6_finds cX6_finds 5 (some .boolean), Cond.fieldLink RX6 66 "OpticmeshModel" "best" "[I", Cond.fieldLink RX6 54 "OpticmeshModel" "first" "[I", Cond.fieldLink RX6 60 "OpticmeshModel" "trial" "[I", Cond.methodLink RX6 141 yX6_sets, Cond.static yX6_sets, Cond.code yX6_sets cX6_sets 2 none, Cond.methodLink RX6 145 yX6_goesOn, Cond.instanceMethod yX6_goesOn, Cond.selects RX6 yX6_goesOn yX6_goesOn, Cond.code yX6_goesOn cX6_goesOn 7 (some .boolean), Cond.fieldLink RX6 90 "OpticmeshModel" "fibres" "I", Cond.fieldLink RX6 20 "OpticmeshModel" "ones" "[I", Cond.fieldLink RX6 24 "OpticmeshModel" "others" "[I", Cond.methodLink RX6 125 yX6_isStep, Cond.instanceMethod yX6_isStep, Cond.selects RX6 yX6_isStep yX6_isStep, Cond.code yX6_isStep cX6_isStep 4 (some .boolean), Cond.methodLink RX6 149 yX6_lays]
def wsX6_findsOneWavelength_r2 : List Cond := [Cond.instanceMethod yX6_lays, Cond.selects RX6 yX6_lays yX6_lays, Cond.code yX6_lays cX6_lays 9 (some .boolean), Cond.fieldLink RX6 72 "OpticmeshModel" "costs" "[I", Cond.fieldLink RX6 27 "OpticmeshModel" "lengths" "[I", Cond.methodLink RX6 129 yX6_free, Cond.instanceMethod yX6_free, Cond.selects RX6 yX6_free yX6_free, Cond.code yX6_free cX6_free 6 (some .int), Cond.fieldLink RX6 33 "OpticmeshModel" "used" "[I", Cond.fieldLink RX6 30 "OpticmeshModel" "areCut" "[Z", Cond.methodLink RX6 133 yX6_cost, Cond.instanceMethod yX6_cost, Cond.selects RX6 yX6_cost yX6_cost, Cond.code yX6_cost cX6_cost 8 (some .int), Cond.fieldLink RX6 16 "OpticmeshModel" "doConvert" "[Z", Cond.methodLink RX6 137 yX6_follows, Cond.instanceMethod yX6_follows, Cond.selects RX6 yX6_follows yX6_follows, Cond.code yX6_follows cX6_follows 6 (some .int), Cond.methodLink RX6 153 yX6_isAhead, Cond.static yX6_isAhead, Cond.code yX6_isAhead cX6_isAhead 3 (some .boolean), Cond.methodLink RX6 157 yX6_copies]
def wsX6_findsOneWavelength_r3 : List Cond := [Cond.static yX6_copies, Cond.code yX6_copies cX6_copies 3 none]
def wsX6_findsOneWavelength : List Cond := .code yX6_findsOneWavelength cX6_findsOneWavelength 4 (some .boolean) :: ((wsX6_findsOneWavelength_r1 ++ (wsX6_findsOneWavelength_r2 ++ wsX6_findsOneWavelength_r3)) ++ wsX60)
def wsX6_laysOne : List Cond := .code yX6_laysOne cX6_laysOne 5 (some .boolean) :: ([.methodLink RX6 129 yX6_free, .instanceMethod yX6_free, .selects RX6 yX6_free yX6_free, .initialized RX6, .code yX6_free cX6_free 6 (some .int), .fieldLink RX6 13 "OpticmeshModel" "wavelengths" "I", .fieldLink RX6 33 "OpticmeshModel" "used" "[I", .fieldLink RX6 30 "OpticmeshModel" "areCut" "[Z", .methodLink RX6 149 yX6_lays, .instanceMethod yX6_lays, .selects RX6 yX6_lays yX6_lays, .code yX6_lays cX6_lays 9 (some .boolean), .fieldLink RX6 72 "OpticmeshModel" "costs" "[I", .fieldLink RX6 27 "OpticmeshModel" "lengths" "[I", .methodLink RX6 133 yX6_cost, .instanceMethod yX6_cost, .selects RX6 yX6_cost yX6_cost, .code yX6_cost cX6_cost 8 (some .int), .fieldLink RX6 16 "OpticmeshModel" "doConvert" "[Z", .methodLink RX6 137 yX6_follows, .instanceMethod yX6_follows, .selects RX6 yX6_follows yX6_follows, .code yX6_follows cX6_follows 6 (some .int)] ++ wsX60)
def wsX6_isBetterPair : List Cond := .code yX6_isBetterPair cX6_isBetterPair 3 (some .boolean) :: ([.fieldLink RX6 60 "OpticmeshModel" "trial" "[I", .fieldLink RX6 63 "OpticmeshModel" "other" "[I", .fieldLink RX6 66 "OpticmeshModel" "best" "[I", .fieldLink RX6 69 "OpticmeshModel" "bestOther" "[I", .methodLink RX6 153 yX6_isAhead, .static yX6_isAhead, .initialized RX6, .code yX6_isAhead cX6_isAhead 3 (some .boolean)] ++ wsX60)
def wsX6_findsPair_r1 : List Cond := [Cond.fieldLink RX6 66 "OpticmeshModel" "best" "[I", Cond.fieldLink RX6 54 "OpticmeshModel" "first" "[I", Cond.fieldLink RX6 60 "OpticmeshModel" "trial" "[I", Cond.fieldLink RX6 57 "OpticmeshModel" "second" "[I", Cond.fieldLink RX6 63 "OpticmeshModel" "other" "[I", Cond.fieldLink RX6 69 "OpticmeshModel" "bestOther" "[I", Cond.methodLink RX6 141 yX6_sets, Cond.static yX6_sets, Cond.initialized RX6, Cond.code yX6_sets cX6_sets 2 none, Cond.methodLink RX6 145 yX6_goesOn, Cond.instanceMethod yX6_goesOn, Cond.selects RX6 yX6_goesOn yX6_goesOn, Cond.code yX6_goesOn cX6_goesOn 7 (some .boolean), Cond.fieldLink RX6 90 "OpticmeshModel" "fibres" "I", Cond.fieldLink RX6 20 "OpticmeshModel" "ones" "[I", Cond.fieldLink RX6 24 "OpticmeshModel" "others" "[I", Cond.methodLink RX6 125 yX6_isStep, Cond.instanceMethod yX6_isStep, Cond.selects RX6 yX6_isStep yX6_isStep, Cond.code yX6_isStep cX6_isStep 4 (some .boolean), Cond.methodLink RX6 165 yX6_laysOne, Cond.instanceMethod yX6_laysOne, Cond.selects RX6 yX6_laysOne yX6_laysOne]
def wsX6_findsPair_r2 : List Cond := [Cond.code yX6_laysOne cX6_laysOne 5 (some .boolean), Cond.methodLink RX6 129 yX6_free, Cond.instanceMethod yX6_free, Cond.selects RX6 yX6_free yX6_free, Cond.code yX6_free cX6_free 6 (some .int), Cond.fieldLink RX6 13 "OpticmeshModel" "wavelengths" "I", Cond.fieldLink RX6 33 "OpticmeshModel" "used" "[I", Cond.fieldLink RX6 30 "OpticmeshModel" "areCut" "[Z", Cond.methodLink RX6 149 yX6_lays, Cond.instanceMethod yX6_lays, Cond.selects RX6 yX6_lays yX6_lays, Cond.code yX6_lays cX6_lays 9 (some .boolean), Cond.fieldLink RX6 72 "OpticmeshModel" "costs" "[I", Cond.fieldLink RX6 27 "OpticmeshModel" "lengths" "[I", Cond.methodLink RX6 133 yX6_cost, Cond.instanceMethod yX6_cost, Cond.selects RX6 yX6_cost yX6_cost, Cond.code yX6_cost cX6_cost 8 (some .int), Cond.fieldLink RX6 16 "OpticmeshModel" "doConvert" "[Z", Cond.methodLink RX6 137 yX6_follows, Cond.instanceMethod yX6_follows, Cond.selects RX6 yX6_follows yX6_follows, Cond.code yX6_follows cX6_follows 6 (some .int), Cond.methodLink RX6 153 yX6_isAhead]
def wsX6_findsPair_r3 : List Cond := [Cond.static yX6_isAhead, Cond.code yX6_isAhead cX6_isAhead 3 (some .boolean), Cond.methodLink RX6 168 yX6_isBetterPair, Cond.instanceMethod yX6_isBetterPair, Cond.selects RX6 yX6_isBetterPair yX6_isBetterPair, Cond.code yX6_isBetterPair cX6_isBetterPair 3 (some .boolean), Cond.methodLink RX6 157 yX6_copies, Cond.static yX6_copies, Cond.code yX6_copies cX6_copies 3 none]
def wsX6_findsPair : List Cond := .code yX6_findsPair cX6_findsPair 5 (some .boolean) :: ((wsX6_findsPair_r1 ++ (wsX6_findsPair_r2 ++ wsX6_findsPair_r3)) ++ wsX60)
def wsX6_findsBy_r1 : List Cond := [Cond.methodLink RX6 161 yX6_finds, Cond.instanceMethod yX6_finds, Cond.selects RX6 yX6_finds yX6_finds, Cond.initialized RX6, Cond.code yX6_finds cX6_finds 5 (some .boolean), Cond.fieldLink RX6 66 "OpticmeshModel" "best" "[I", Cond.fieldLink RX6 54 "OpticmeshModel" "first" "[I", Cond.fieldLink RX6 60 "OpticmeshModel" "trial" "[I", Cond.methodLink RX6 141 yX6_sets, Cond.static yX6_sets, Cond.code yX6_sets cX6_sets 2 none, Cond.methodLink RX6 145 yX6_goesOn, Cond.instanceMethod yX6_goesOn, Cond.selects RX6 yX6_goesOn yX6_goesOn, Cond.code yX6_goesOn cX6_goesOn 7 (some .boolean), Cond.fieldLink RX6 90 "OpticmeshModel" "fibres" "I", Cond.fieldLink RX6 20 "OpticmeshModel" "ones" "[I", Cond.fieldLink RX6 24 "OpticmeshModel" "others" "[I", Cond.methodLink RX6 125 yX6_isStep, Cond.instanceMethod yX6_isStep, Cond.selects RX6 yX6_isStep yX6_isStep, Cond.code yX6_isStep cX6_isStep 4 (some .boolean), Cond.methodLink RX6 149 yX6_lays, Cond.instanceMethod yX6_lays]
def wsX6_findsBy_r2 : List Cond := [Cond.selects RX6 yX6_lays yX6_lays, Cond.code yX6_lays cX6_lays 9 (some .boolean), Cond.fieldLink RX6 13 "OpticmeshModel" "wavelengths" "I", Cond.fieldLink RX6 72 "OpticmeshModel" "costs" "[I", Cond.fieldLink RX6 27 "OpticmeshModel" "lengths" "[I", Cond.methodLink RX6 129 yX6_free, Cond.instanceMethod yX6_free, Cond.selects RX6 yX6_free yX6_free, Cond.code yX6_free cX6_free 6 (some .int), Cond.fieldLink RX6 33 "OpticmeshModel" "used" "[I", Cond.fieldLink RX6 30 "OpticmeshModel" "areCut" "[Z", Cond.methodLink RX6 133 yX6_cost, Cond.instanceMethod yX6_cost, Cond.selects RX6 yX6_cost yX6_cost, Cond.code yX6_cost cX6_cost 8 (some .int), Cond.fieldLink RX6 16 "OpticmeshModel" "doConvert" "[Z", Cond.methodLink RX6 137 yX6_follows, Cond.instanceMethod yX6_follows, Cond.selects RX6 yX6_follows yX6_follows, Cond.code yX6_follows cX6_follows 6 (some .int), Cond.methodLink RX6 153 yX6_isAhead, Cond.static yX6_isAhead, Cond.code yX6_isAhead cX6_isAhead 3 (some .boolean), Cond.methodLink RX6 157 yX6_copies]
def wsX6_findsBy_r3 : List Cond := [Cond.static yX6_copies, Cond.code yX6_copies cX6_copies 3 none, Cond.methodLink RX6 172 yX6_findsOneWavelength, Cond.instanceMethod yX6_findsOneWavelength, Cond.selects RX6 yX6_findsOneWavelength yX6_findsOneWavelength, Cond.code yX6_findsOneWavelength cX6_findsOneWavelength 4 (some .boolean), Cond.methodLink RX6 175 yX6_findsPair, Cond.instanceMethod yX6_findsPair, Cond.selects RX6 yX6_findsPair yX6_findsPair, Cond.code yX6_findsPair cX6_findsPair 5 (some .boolean), Cond.fieldLink RX6 57 "OpticmeshModel" "second" "[I", Cond.fieldLink RX6 63 "OpticmeshModel" "other" "[I", Cond.fieldLink RX6 69 "OpticmeshModel" "bestOther" "[I", Cond.methodLink RX6 165 yX6_laysOne, Cond.instanceMethod yX6_laysOne, Cond.selects RX6 yX6_laysOne yX6_laysOne, Cond.code yX6_laysOne cX6_laysOne 5 (some .boolean), Cond.methodLink RX6 168 yX6_isBetterPair, Cond.instanceMethod yX6_isBetterPair, Cond.selects RX6 yX6_isBetterPair yX6_isBetterPair, Cond.code yX6_isBetterPair cX6_isBetterPair 3 (some .boolean)]
def wsX6_findsBy : List Cond := .code yX6_findsBy cX6_findsBy 4 (some .boolean) :: ((wsX6_findsBy_r1 ++ (wsX6_findsBy_r2 ++ wsX6_findsBy_r3)) ++ wsX60)
def wsX6_carried : List Cond := .code yX6_carried cX6_carried 4 (some .int) :: ([.fieldLink RX6 93 "OpticmeshModel" "requests" "I", .fieldLink RX6 36 "OpticmeshModel" "carriers" "[I", .fieldLink RX6 39 "OpticmeshModel" "demands" "[I"] ++ wsX60)
def wsX6_placeOf : List Cond := .code yX6_placeOf cX6_placeOf 1 (some .int) :: ([])
def wsX6_uses : List Cond := .code yX6_uses cX6_uses 5 none :: ([.fieldLink RX6 33 "OpticmeshModel" "used" "[I", .methodLink RX6 178 yX6_way, .instanceMethod yX6_way, .selects RX6 yX6_way yX6_way, .initialized RX6, .code yX6_way cX6_way 4 (some .int), .fieldLink RX6 51 "OpticmeshModel" "laid" "[I", .methodLink RX6 182 yX6_placeOf, .static yX6_placeOf, .code yX6_placeOf cX6_placeOf 1 (some .int)] ++ wsX60)
def wsX6_gets : List Cond := .code yX6_gets cX6_gets 5 none :: ([.fieldLink RX6 51 "OpticmeshModel" "laid" "[I", .methodLink RX6 185 yX6_uses, .instanceMethod yX6_uses, .selects RX6 yX6_uses yX6_uses, .initialized RX6, .code yX6_uses cX6_uses 5 none, .fieldLink RX6 33 "OpticmeshModel" "used" "[I", .methodLink RX6 178 yX6_way, .instanceMethod yX6_way, .selects RX6 yX6_way yX6_way, .code yX6_way cX6_way 4 (some .int), .methodLink RX6 182 yX6_placeOf, .static yX6_placeOf, .code yX6_placeOf cX6_placeOf 1 (some .int)] ++ wsX60)
def wsX6_ends : List Cond := .code yX6_ends cX6_ends 3 none :: ([.fieldLink RX6 48 "OpticmeshModel" "ways" "[I", .methodLink RX6 185 yX6_uses, .instanceMethod yX6_uses, .selects RX6 yX6_uses yX6_uses, .initialized RX6, .code yX6_uses cX6_uses 5 none, .fieldLink RX6 33 "OpticmeshModel" "used" "[I", .methodLink RX6 178 yX6_way, .instanceMethod yX6_way, .selects RX6 yX6_way yX6_way, .code yX6_way cX6_way 4 (some .int), .fieldLink RX6 51 "OpticmeshModel" "laid" "[I", .methodLink RX6 182 yX6_placeOf, .static yX6_placeOf, .code yX6_placeOf cX6_placeOf 1 (some .int)] ++ wsX60)
def wsX6_haveSameEnds : List Cond := .code yX6_haveSameEnds cX6_haveSameEnds 4 (some .boolean) :: ([.fieldLink RX6 42 "OpticmeshModel" "starts" "[I", .fieldLink RX6 45 "OpticmeshModel" "ends" "[I"] ++ wsX60)
def wsX6_roomFor_r1 : List Cond := [Cond.fieldLink RX6 96 "OpticmeshModel" "lights" "I", Cond.fieldLink RX6 48 "OpticmeshModel" "ways" "[I", Cond.methodLink RX6 111 yX6_isUp, Cond.instanceMethod yX6_isUp, Cond.selects RX6 yX6_isUp yX6_isUp, Cond.initialized RX6, Cond.code yX6_isUp cX6_isUp 5 (some .boolean), Cond.fieldLink RX6 30 "OpticmeshModel" "areCut" "[Z", Cond.methodLink RX6 178 yX6_way, Cond.instanceMethod yX6_way, Cond.selects RX6 yX6_way yX6_way, Cond.code yX6_way cX6_way 4 (some .int), Cond.fieldLink RX6 51 "OpticmeshModel" "laid" "[I", Cond.methodLink RX6 189 yX6_haveSameEnds, Cond.instanceMethod yX6_haveSameEnds, Cond.selects RX6 yX6_haveSameEnds yX6_haveSameEnds, Cond.code yX6_haveSameEnds cX6_haveSameEnds 4 (some .boolean), Cond.fieldLink RX6 42 "OpticmeshModel" "starts" "[I", Cond.fieldLink RX6 45 "OpticmeshModel" "ends" "[I", Cond.methodLink RX6 192 yX6_carried, Cond.instanceMethod yX6_carried, Cond.selects RX6 yX6_carried yX6_carried, Cond.code yX6_carried cX6_carried 4 (some .int), Cond.fieldLink RX6 93 "OpticmeshModel" "requests" "I"]
def wsX6_roomFor_r2 : List Cond := [Cond.fieldLink RX6 36 "OpticmeshModel" "carriers" "[I", Cond.fieldLink RX6 39 "OpticmeshModel" "demands" "[I"]
def wsX6_roomFor : List Cond := .code yX6_roomFor cX6_roomFor 6 (some .int) :: ((wsX6_roomFor_r1 ++ wsX6_roomFor_r2) ++ wsX60)
def wsX6_numberOfLights : List Cond := .code yX6_numberOfLights cX6_numberOfLights 3 (some .int) :: ([.fieldLink RX6 96 "OpticmeshModel" "lights" "I", .fieldLink RX6 48 "OpticmeshModel" "ways" "[I"] ++ wsX60)
def wsX6_makes : List Cond := .code yX6_makes cX6_makes 4 (some .int) :: ([.fieldLink RX6 42 "OpticmeshModel" "starts" "[I", .fieldLink RX6 96 "OpticmeshModel" "lights" "I", .fieldLink RX6 45 "OpticmeshModel" "ends" "[I", .fieldLink RX6 48 "OpticmeshModel" "ways" "[I", .fieldLink RX6 66 "OpticmeshModel" "best" "[I", .fieldLink RX6 69 "OpticmeshModel" "bestOther" "[I", .methodLink RX6 195 yX6_gets, .instanceMethod yX6_gets, .selects RX6 yX6_gets yX6_gets, .initialized RX6, .code yX6_gets cX6_gets 5 none, .fieldLink RX6 51 "OpticmeshModel" "laid" "[I", .methodLink RX6 185 yX6_uses, .instanceMethod yX6_uses, .selects RX6 yX6_uses yX6_uses, .code yX6_uses cX6_uses 5 none, .fieldLink RX6 33 "OpticmeshModel" "used" "[I", .methodLink RX6 178 yX6_way, .instanceMethod yX6_way, .selects RX6 yX6_way yX6_way, .code yX6_way cX6_way 4 (some .int), .methodLink RX6 182 yX6_placeOf, .static yX6_placeOf, .code yX6_placeOf cX6_placeOf 1 (some .int)] ++ wsX60)
def wsX6_request_r1 : List Cond := [Cond.fieldLink RX6 93 "OpticmeshModel" "requests" "I", Cond.fieldLink RX6 36 "OpticmeshModel" "carriers" "[I", Cond.fieldLink RX6 39 "OpticmeshModel" "demands" "[I", Cond.methodLink RX6 107 yX6_areTwo, Cond.instanceMethod yX6_areTwo, Cond.selects RX6 yX6_areTwo yX6_areTwo, Cond.initialized RX6, Cond.code yX6_areTwo cX6_areTwo 3 (some .boolean), Cond.fieldLink RX6 7 "OpticmeshModel" "nodes" "I", Cond.methodLink RX6 99 yX6_in, Cond.static yX6_in, Cond.code yX6_in cX6_in 3 (some .boolean), Cond.methodLink RX6 199 yX6_roomFor, Cond.instanceMethod yX6_roomFor, Cond.selects RX6 yX6_roomFor yX6_roomFor, Cond.code yX6_roomFor cX6_roomFor 6 (some .int), Cond.fieldLink RX6 96 "OpticmeshModel" "lights" "I", Cond.fieldLink RX6 48 "OpticmeshModel" "ways" "[I", Cond.methodLink RX6 111 yX6_isUp, Cond.instanceMethod yX6_isUp, Cond.selects RX6 yX6_isUp yX6_isUp, Cond.code yX6_isUp cX6_isUp 5 (some .boolean), Cond.fieldLink RX6 30 "OpticmeshModel" "areCut" "[Z", Cond.methodLink RX6 178 yX6_way]
def wsX6_request_r2 : List Cond := [Cond.instanceMethod yX6_way, Cond.selects RX6 yX6_way yX6_way, Cond.code yX6_way cX6_way 4 (some .int), Cond.fieldLink RX6 51 "OpticmeshModel" "laid" "[I", Cond.methodLink RX6 189 yX6_haveSameEnds, Cond.instanceMethod yX6_haveSameEnds, Cond.selects RX6 yX6_haveSameEnds yX6_haveSameEnds, Cond.code yX6_haveSameEnds cX6_haveSameEnds 4 (some .boolean), Cond.fieldLink RX6 42 "OpticmeshModel" "starts" "[I", Cond.fieldLink RX6 45 "OpticmeshModel" "ends" "[I", Cond.methodLink RX6 192 yX6_carried, Cond.instanceMethod yX6_carried, Cond.selects RX6 yX6_carried yX6_carried, Cond.code yX6_carried cX6_carried 4 (some .int), Cond.methodLink RX6 203 yX6_numberOfLights, Cond.instanceMethod yX6_numberOfLights, Cond.selects RX6 yX6_numberOfLights yX6_numberOfLights, Cond.code yX6_numberOfLights cX6_numberOfLights 3 (some .int), Cond.methodLink RX6 206 yX6_findsBy, Cond.instanceMethod yX6_findsBy, Cond.selects RX6 yX6_findsBy yX6_findsBy, Cond.code yX6_findsBy cX6_findsBy 4 (some .boolean), Cond.methodLink RX6 161 yX6_finds, Cond.instanceMethod yX6_finds]
def wsX6_request_r3 : List Cond := [Cond.selects RX6 yX6_finds yX6_finds, Cond.code yX6_finds cX6_finds 5 (some .boolean), Cond.fieldLink RX6 66 "OpticmeshModel" "best" "[I", Cond.fieldLink RX6 54 "OpticmeshModel" "first" "[I", Cond.fieldLink RX6 60 "OpticmeshModel" "trial" "[I", Cond.methodLink RX6 141 yX6_sets, Cond.static yX6_sets, Cond.code yX6_sets cX6_sets 2 none, Cond.methodLink RX6 145 yX6_goesOn, Cond.instanceMethod yX6_goesOn, Cond.selects RX6 yX6_goesOn yX6_goesOn, Cond.code yX6_goesOn cX6_goesOn 7 (some .boolean), Cond.fieldLink RX6 90 "OpticmeshModel" "fibres" "I", Cond.fieldLink RX6 20 "OpticmeshModel" "ones" "[I", Cond.fieldLink RX6 24 "OpticmeshModel" "others" "[I", Cond.methodLink RX6 125 yX6_isStep, Cond.instanceMethod yX6_isStep, Cond.selects RX6 yX6_isStep yX6_isStep, Cond.code yX6_isStep cX6_isStep 4 (some .boolean), Cond.methodLink RX6 149 yX6_lays, Cond.instanceMethod yX6_lays, Cond.selects RX6 yX6_lays yX6_lays, Cond.code yX6_lays cX6_lays 9 (some .boolean), Cond.fieldLink RX6 13 "OpticmeshModel" "wavelengths" "I"]
def wsX6_request_r4 : List Cond := [Cond.fieldLink RX6 72 "OpticmeshModel" "costs" "[I", Cond.fieldLink RX6 27 "OpticmeshModel" "lengths" "[I", Cond.methodLink RX6 129 yX6_free, Cond.instanceMethod yX6_free, Cond.selects RX6 yX6_free yX6_free, Cond.code yX6_free cX6_free 6 (some .int), Cond.fieldLink RX6 33 "OpticmeshModel" "used" "[I", Cond.methodLink RX6 133 yX6_cost, Cond.instanceMethod yX6_cost, Cond.selects RX6 yX6_cost yX6_cost, Cond.code yX6_cost cX6_cost 8 (some .int), Cond.fieldLink RX6 16 "OpticmeshModel" "doConvert" "[Z", Cond.methodLink RX6 137 yX6_follows, Cond.instanceMethod yX6_follows, Cond.selects RX6 yX6_follows yX6_follows, Cond.code yX6_follows cX6_follows 6 (some .int), Cond.methodLink RX6 153 yX6_isAhead, Cond.static yX6_isAhead, Cond.code yX6_isAhead cX6_isAhead 3 (some .boolean), Cond.methodLink RX6 157 yX6_copies, Cond.static yX6_copies, Cond.code yX6_copies cX6_copies 3 none, Cond.methodLink RX6 172 yX6_findsOneWavelength, Cond.instanceMethod yX6_findsOneWavelength]
def wsX6_request_r5 : List Cond := [Cond.selects RX6 yX6_findsOneWavelength yX6_findsOneWavelength, Cond.code yX6_findsOneWavelength cX6_findsOneWavelength 4 (some .boolean), Cond.methodLink RX6 175 yX6_findsPair, Cond.instanceMethod yX6_findsPair, Cond.selects RX6 yX6_findsPair yX6_findsPair, Cond.code yX6_findsPair cX6_findsPair 5 (some .boolean), Cond.fieldLink RX6 57 "OpticmeshModel" "second" "[I", Cond.fieldLink RX6 63 "OpticmeshModel" "other" "[I", Cond.fieldLink RX6 69 "OpticmeshModel" "bestOther" "[I", Cond.methodLink RX6 165 yX6_laysOne, Cond.instanceMethod yX6_laysOne, Cond.selects RX6 yX6_laysOne yX6_laysOne, Cond.code yX6_laysOne cX6_laysOne 5 (some .boolean), Cond.methodLink RX6 168 yX6_isBetterPair, Cond.instanceMethod yX6_isBetterPair, Cond.selects RX6 yX6_isBetterPair yX6_isBetterPair, Cond.code yX6_isBetterPair cX6_isBetterPair 3 (some .boolean), Cond.methodLink RX6 103 yX6_holds, Cond.instanceMethod yX6_holds, Cond.selects RX6 yX6_holds yX6_holds, Cond.code yX6_holds cX6_holds 2 (some .boolean), Cond.fieldLink RX6 87 "OpticmeshModel" "thrown" "I", Cond.methodLink RX6 209 yX6_makes, Cond.instanceMethod yX6_makes]
def wsX6_request_r6 : List Cond := [Cond.selects RX6 yX6_makes yX6_makes, Cond.code yX6_makes cX6_makes 4 (some .int), Cond.methodLink RX6 195 yX6_gets, Cond.instanceMethod yX6_gets, Cond.selects RX6 yX6_gets yX6_gets, Cond.code yX6_gets cX6_gets 5 none, Cond.methodLink RX6 185 yX6_uses, Cond.instanceMethod yX6_uses, Cond.selects RX6 yX6_uses yX6_uses, Cond.code yX6_uses cX6_uses 5 none, Cond.methodLink RX6 182 yX6_placeOf, Cond.static yX6_placeOf, Cond.code yX6_placeOf cX6_placeOf 1 (some .int)]
def wsX6_request : List Cond := .code yX6_request cX6_request 8 (some .int) :: ((wsX6_request_r1 ++ (wsX6_request_r2 ++ (wsX6_request_r3 ++ (wsX6_request_r4 ++ (wsX6_request_r5 ++ wsX6_request_r6))))) ++ wsX60)
def wsX6_newLength_r1 : List Cond := [Cond.fieldLink RX6 66 "OpticmeshModel" "best" "[I", Cond.fieldLink RX6 69 "OpticmeshModel" "bestOther" "[I", Cond.methodLink RX6 107 yX6_areTwo, Cond.instanceMethod yX6_areTwo, Cond.selects RX6 yX6_areTwo yX6_areTwo, Cond.initialized RX6, Cond.code yX6_areTwo cX6_areTwo 3 (some .boolean), Cond.fieldLink RX6 7 "OpticmeshModel" "nodes" "I", Cond.methodLink RX6 99 yX6_in, Cond.static yX6_in, Cond.code yX6_in cX6_in 3 (some .boolean), Cond.methodLink RX6 206 yX6_findsBy, Cond.instanceMethod yX6_findsBy, Cond.selects RX6 yX6_findsBy yX6_findsBy, Cond.code yX6_findsBy cX6_findsBy 4 (some .boolean), Cond.methodLink RX6 161 yX6_finds, Cond.instanceMethod yX6_finds, Cond.selects RX6 yX6_finds yX6_finds, Cond.code yX6_finds cX6_finds 5 (some .boolean), Cond.fieldLink RX6 54 "OpticmeshModel" "first" "[I", Cond.fieldLink RX6 60 "OpticmeshModel" "trial" "[I", Cond.methodLink RX6 141 yX6_sets, Cond.static yX6_sets, Cond.code yX6_sets cX6_sets 2 none]
def wsX6_newLength_r2 : List Cond := [Cond.methodLink RX6 145 yX6_goesOn, Cond.instanceMethod yX6_goesOn, Cond.selects RX6 yX6_goesOn yX6_goesOn, Cond.code yX6_goesOn cX6_goesOn 7 (some .boolean), Cond.fieldLink RX6 90 "OpticmeshModel" "fibres" "I", Cond.fieldLink RX6 20 "OpticmeshModel" "ones" "[I", Cond.fieldLink RX6 24 "OpticmeshModel" "others" "[I", Cond.methodLink RX6 125 yX6_isStep, Cond.instanceMethod yX6_isStep, Cond.selects RX6 yX6_isStep yX6_isStep, Cond.code yX6_isStep cX6_isStep 4 (some .boolean), Cond.methodLink RX6 149 yX6_lays, Cond.instanceMethod yX6_lays, Cond.selects RX6 yX6_lays yX6_lays, Cond.code yX6_lays cX6_lays 9 (some .boolean), Cond.fieldLink RX6 13 "OpticmeshModel" "wavelengths" "I", Cond.fieldLink RX6 72 "OpticmeshModel" "costs" "[I", Cond.fieldLink RX6 27 "OpticmeshModel" "lengths" "[I", Cond.methodLink RX6 129 yX6_free, Cond.instanceMethod yX6_free, Cond.selects RX6 yX6_free yX6_free, Cond.code yX6_free cX6_free 6 (some .int), Cond.fieldLink RX6 33 "OpticmeshModel" "used" "[I", Cond.fieldLink RX6 30 "OpticmeshModel" "areCut" "[Z"]
def wsX6_newLength_r3 : List Cond := [Cond.methodLink RX6 133 yX6_cost, Cond.instanceMethod yX6_cost, Cond.selects RX6 yX6_cost yX6_cost, Cond.code yX6_cost cX6_cost 8 (some .int), Cond.fieldLink RX6 16 "OpticmeshModel" "doConvert" "[Z", Cond.methodLink RX6 137 yX6_follows, Cond.instanceMethod yX6_follows, Cond.selects RX6 yX6_follows yX6_follows, Cond.code yX6_follows cX6_follows 6 (some .int), Cond.methodLink RX6 153 yX6_isAhead, Cond.static yX6_isAhead, Cond.code yX6_isAhead cX6_isAhead 3 (some .boolean), Cond.methodLink RX6 157 yX6_copies, Cond.static yX6_copies, Cond.code yX6_copies cX6_copies 3 none, Cond.methodLink RX6 172 yX6_findsOneWavelength, Cond.instanceMethod yX6_findsOneWavelength, Cond.selects RX6 yX6_findsOneWavelength yX6_findsOneWavelength, Cond.code yX6_findsOneWavelength cX6_findsOneWavelength 4 (some .boolean), Cond.methodLink RX6 175 yX6_findsPair, Cond.instanceMethod yX6_findsPair, Cond.selects RX6 yX6_findsPair yX6_findsPair, Cond.code yX6_findsPair cX6_findsPair 5 (some .boolean), Cond.fieldLink RX6 57 "OpticmeshModel" "second" "[I"]
def wsX6_newLength_r4 : List Cond := [Cond.fieldLink RX6 63 "OpticmeshModel" "other" "[I", Cond.methodLink RX6 165 yX6_laysOne, Cond.instanceMethod yX6_laysOne, Cond.selects RX6 yX6_laysOne yX6_laysOne, Cond.code yX6_laysOne cX6_laysOne 5 (some .boolean), Cond.methodLink RX6 168 yX6_isBetterPair, Cond.instanceMethod yX6_isBetterPair, Cond.selects RX6 yX6_isBetterPair yX6_isBetterPair, Cond.code yX6_isBetterPair cX6_isBetterPair 3 (some .boolean), Cond.methodLink RX6 103 yX6_holds, Cond.instanceMethod yX6_holds, Cond.selects RX6 yX6_holds yX6_holds, Cond.code yX6_holds cX6_holds 2 (some .boolean), Cond.fieldLink RX6 87 "OpticmeshModel" "thrown" "I"]
def wsX6_newLength : List Cond := .code yX6_newLength cX6_newLength 6 (some .int) :: ((wsX6_newLength_r1 ++ (wsX6_newLength_r2 ++ (wsX6_newLength_r3 ++ wsX6_newLength_r4))) ++ wsX60)
def wsX6_errorOfRequest : List Cond := .code yX6_errorOfRequest cX6_errorOfRequest 2 (some .int) :: ([.fieldLink RX6 93 "OpticmeshModel" "requests" "I", .fieldLink RX6 39 "OpticmeshModel" "demands" "[I", .methodLink RX6 99 yX6_in, .static yX6_in, .initialized RX6, .code yX6_in cX6_in 3 (some .boolean)] ++ wsX60)
def wsX6_release_r1 : List Cond := [Cond.fieldLink RX6 36 "OpticmeshModel" "carriers" "[I", Cond.fieldLink RX6 39 "OpticmeshModel" "demands" "[I", Cond.methodLink RX6 212 yX6_errorOfRequest, Cond.instanceMethod yX6_errorOfRequest, Cond.selects RX6 yX6_errorOfRequest yX6_errorOfRequest, Cond.initialized RX6, Cond.code yX6_errorOfRequest cX6_errorOfRequest 2 (some .int), Cond.fieldLink RX6 93 "OpticmeshModel" "requests" "I", Cond.methodLink RX6 99 yX6_in, Cond.static yX6_in, Cond.code yX6_in cX6_in 3 (some .boolean), Cond.methodLink RX6 103 yX6_holds, Cond.instanceMethod yX6_holds, Cond.selects RX6 yX6_holds yX6_holds, Cond.code yX6_holds cX6_holds 2 (some .boolean), Cond.fieldLink RX6 87 "OpticmeshModel" "thrown" "I", Cond.methodLink RX6 192 yX6_carried, Cond.instanceMethod yX6_carried, Cond.selects RX6 yX6_carried yX6_carried, Cond.code yX6_carried cX6_carried 4 (some .int), Cond.methodLink RX6 215 yX6_ends, Cond.instanceMethod yX6_ends, Cond.selects RX6 yX6_ends yX6_ends, Cond.code yX6_ends cX6_ends 3 none]
def wsX6_release_r2 : List Cond := [Cond.fieldLink RX6 48 "OpticmeshModel" "ways" "[I", Cond.methodLink RX6 185 yX6_uses, Cond.instanceMethod yX6_uses, Cond.selects RX6 yX6_uses yX6_uses, Cond.code yX6_uses cX6_uses 5 none, Cond.fieldLink RX6 33 "OpticmeshModel" "used" "[I", Cond.methodLink RX6 178 yX6_way, Cond.instanceMethod yX6_way, Cond.selects RX6 yX6_way yX6_way, Cond.code yX6_way cX6_way 4 (some .int), Cond.fieldLink RX6 51 "OpticmeshModel" "laid" "[I", Cond.methodLink RX6 182 yX6_placeOf, Cond.static yX6_placeOf, Cond.code yX6_placeOf cX6_placeOf 1 (some .int)]
def wsX6_release : List Cond := .code yX6_release cX6_release 4 (some .int) :: ((wsX6_release_r1 ++ wsX6_release_r2) ++ wsX60)
def wsX6_lightOf : List Cond := .code yX6_lightOf cX6_lightOf 2 (some .int) :: ([.fieldLink RX6 36 "OpticmeshModel" "carriers" "[I", .methodLink RX6 212 yX6_errorOfRequest, .instanceMethod yX6_errorOfRequest, .selects RX6 yX6_errorOfRequest yX6_errorOfRequest, .initialized RX6, .code yX6_errorOfRequest cX6_errorOfRequest 2 (some .int), .fieldLink RX6 93 "OpticmeshModel" "requests" "I", .fieldLink RX6 39 "OpticmeshModel" "demands" "[I", .methodLink RX6 99 yX6_in, .static yX6_in, .code yX6_in cX6_in 3 (some .boolean), .methodLink RX6 103 yX6_holds, .instanceMethod yX6_holds, .selects RX6 yX6_holds yX6_holds, .code yX6_holds cX6_holds 2 (some .boolean), .fieldLink RX6 87 "OpticmeshModel" "thrown" "I"] ++ wsX60)
def wsX6_requests : List Cond := .code yX6_requests cX6_requests 1 (some .int) :: ([.fieldLink RX6 87 "OpticmeshModel" "thrown" "I", .fieldLink RX6 93 "OpticmeshModel" "requests" "I"] ++ wsX60)
def wsX6_lights : List Cond := .code yX6_lights cX6_lights 1 (some .int) :: ([.fieldLink RX6 87 "OpticmeshModel" "thrown" "I", .fieldLink RX6 96 "OpticmeshModel" "lights" "I"] ++ wsX60)
def wsX6_state_r1 : List Cond := [Cond.fieldLink RX6 48 "OpticmeshModel" "ways" "[I", Cond.methodLink RX6 218 yX6_isLight, Cond.instanceMethod yX6_isLight, Cond.selects RX6 yX6_isLight yX6_isLight, Cond.initialized RX6, Cond.code yX6_isLight cX6_isLight 2 (some .boolean), Cond.fieldLink RX6 96 "OpticmeshModel" "lights" "I", Cond.methodLink RX6 99 yX6_in, Cond.static yX6_in, Cond.code yX6_in cX6_in 3 (some .boolean), Cond.methodLink RX6 103 yX6_holds, Cond.instanceMethod yX6_holds, Cond.selects RX6 yX6_holds yX6_holds, Cond.code yX6_holds cX6_holds 2 (some .boolean), Cond.fieldLink RX6 87 "OpticmeshModel" "thrown" "I", Cond.methodLink RX6 111 yX6_isUp, Cond.instanceMethod yX6_isUp, Cond.selects RX6 yX6_isUp yX6_isUp, Cond.code yX6_isUp cX6_isUp 5 (some .boolean), Cond.fieldLink RX6 30 "OpticmeshModel" "areCut" "[Z", Cond.methodLink RX6 178 yX6_way, Cond.instanceMethod yX6_way, Cond.selects RX6 yX6_way yX6_way, Cond.code yX6_way cX6_way 4 (some .int)]
def wsX6_state_r2 : List Cond := [Cond.fieldLink RX6 51 "OpticmeshModel" "laid" "[I"]
def wsX6_state : List Cond := .code yX6_state cX6_state 2 (some .int) :: ((wsX6_state_r1 ++ wsX6_state_r2) ++ wsX60)
def wsX6_units : List Cond := .code yX6_units cX6_units 2 (some .int) :: ([.methodLink RX6 218 yX6_isLight, .instanceMethod yX6_isLight, .selects RX6 yX6_isLight yX6_isLight, .initialized RX6, .code yX6_isLight cX6_isLight 2 (some .boolean), .fieldLink RX6 96 "OpticmeshModel" "lights" "I", .methodLink RX6 99 yX6_in, .static yX6_in, .code yX6_in cX6_in 3 (some .boolean), .methodLink RX6 103 yX6_holds, .instanceMethod yX6_holds, .selects RX6 yX6_holds yX6_holds, .code yX6_holds cX6_holds 2 (some .boolean), .fieldLink RX6 87 "OpticmeshModel" "thrown" "I", .methodLink RX6 192 yX6_carried, .instanceMethod yX6_carried, .selects RX6 yX6_carried yX6_carried, .code yX6_carried cX6_carried 4 (some .int), .fieldLink RX6 93 "OpticmeshModel" "requests" "I", .fieldLink RX6 36 "OpticmeshModel" "carriers" "[I", .fieldLink RX6 39 "OpticmeshModel" "demands" "[I"] ++ wsX60)
def wsX6_isWay : List Cond := .code yX6_isWay cX6_isWay 3 (some .boolean) :: ([.fieldLink RX6 48 "OpticmeshModel" "ways" "[I", .methodLink RX6 218 yX6_isLight, .instanceMethod yX6_isLight, .selects RX6 yX6_isLight yX6_isLight, .initialized RX6, .code yX6_isLight cX6_isLight 2 (some .boolean), .fieldLink RX6 96 "OpticmeshModel" "lights" "I", .methodLink RX6 99 yX6_in, .static yX6_in, .code yX6_in cX6_in 3 (some .boolean)] ++ wsX60)
def wsX6_channels : List Cond := .code yX6_channels cX6_channels 3 (some .int) :: ([.methodLink RX6 221 yX6_isWay, .instanceMethod yX6_isWay, .selects RX6 yX6_isWay yX6_isWay, .initialized RX6, .code yX6_isWay cX6_isWay 3 (some .boolean), .fieldLink RX6 48 "OpticmeshModel" "ways" "[I", .methodLink RX6 218 yX6_isLight, .instanceMethod yX6_isLight, .selects RX6 yX6_isLight yX6_isLight, .code yX6_isLight cX6_isLight 2 (some .boolean), .fieldLink RX6 96 "OpticmeshModel" "lights" "I", .methodLink RX6 99 yX6_in, .static yX6_in, .code yX6_in cX6_in 3 (some .boolean), .methodLink RX6 103 yX6_holds, .instanceMethod yX6_holds, .selects RX6 yX6_holds yX6_holds, .code yX6_holds cX6_holds 2 (some .boolean), .fieldLink RX6 87 "OpticmeshModel" "thrown" "I", .methodLink RX6 178 yX6_way, .instanceMethod yX6_way, .selects RX6 yX6_way yX6_way, .code yX6_way cX6_way 4 (some .int), .fieldLink RX6 51 "OpticmeshModel" "laid" "[I"] ++ wsX60)
def wsX6_channel : List Cond := .code yX6_channel cX6_channel 4 (some .int) :: ([.methodLink RX6 221 yX6_isWay, .instanceMethod yX6_isWay, .selects RX6 yX6_isWay yX6_isWay, .initialized RX6, .code yX6_isWay cX6_isWay 3 (some .boolean), .fieldLink RX6 48 "OpticmeshModel" "ways" "[I", .methodLink RX6 218 yX6_isLight, .instanceMethod yX6_isLight, .selects RX6 yX6_isLight yX6_isLight, .code yX6_isLight cX6_isLight 2 (some .boolean), .fieldLink RX6 96 "OpticmeshModel" "lights" "I", .methodLink RX6 99 yX6_in, .static yX6_in, .code yX6_in cX6_in 3 (some .boolean), .methodLink RX6 178 yX6_way, .instanceMethod yX6_way, .selects RX6 yX6_way yX6_way, .code yX6_way cX6_way 4 (some .int), .fieldLink RX6 51 "OpticmeshModel" "laid" "[I", .methodLink RX6 103 yX6_holds, .instanceMethod yX6_holds, .selects RX6 yX6_holds yX6_holds, .code yX6_holds cX6_holds 2 (some .boolean), .fieldLink RX6 87 "OpticmeshModel" "thrown" "I"] ++ wsX60)
def wsX6_reroute_r1 : List Cond := [Cond.fieldLink RX6 48 "OpticmeshModel" "ways" "[I", Cond.fieldLink RX6 42 "OpticmeshModel" "starts" "[I", Cond.fieldLink RX6 45 "OpticmeshModel" "ends" "[I", Cond.fieldLink RX6 66 "OpticmeshModel" "best" "[I", Cond.methodLink RX6 218 yX6_isLight, Cond.instanceMethod yX6_isLight, Cond.selects RX6 yX6_isLight yX6_isLight, Cond.initialized RX6, Cond.code yX6_isLight cX6_isLight 2 (some .boolean), Cond.fieldLink RX6 96 "OpticmeshModel" "lights" "I", Cond.methodLink RX6 99 yX6_in, Cond.static yX6_in, Cond.code yX6_in cX6_in 3 (some .boolean), Cond.methodLink RX6 161 yX6_finds, Cond.instanceMethod yX6_finds, Cond.selects RX6 yX6_finds yX6_finds, Cond.code yX6_finds cX6_finds 5 (some .boolean), Cond.fieldLink RX6 54 "OpticmeshModel" "first" "[I", Cond.fieldLink RX6 60 "OpticmeshModel" "trial" "[I", Cond.methodLink RX6 141 yX6_sets, Cond.static yX6_sets, Cond.code yX6_sets cX6_sets 2 none, Cond.methodLink RX6 145 yX6_goesOn, Cond.instanceMethod yX6_goesOn]
def wsX6_reroute_r2 : List Cond := [Cond.selects RX6 yX6_goesOn yX6_goesOn, Cond.code yX6_goesOn cX6_goesOn 7 (some .boolean), Cond.fieldLink RX6 90 "OpticmeshModel" "fibres" "I", Cond.fieldLink RX6 20 "OpticmeshModel" "ones" "[I", Cond.fieldLink RX6 24 "OpticmeshModel" "others" "[I", Cond.methodLink RX6 125 yX6_isStep, Cond.instanceMethod yX6_isStep, Cond.selects RX6 yX6_isStep yX6_isStep, Cond.code yX6_isStep cX6_isStep 4 (some .boolean), Cond.methodLink RX6 149 yX6_lays, Cond.instanceMethod yX6_lays, Cond.selects RX6 yX6_lays yX6_lays, Cond.code yX6_lays cX6_lays 9 (some .boolean), Cond.fieldLink RX6 13 "OpticmeshModel" "wavelengths" "I", Cond.fieldLink RX6 72 "OpticmeshModel" "costs" "[I", Cond.fieldLink RX6 27 "OpticmeshModel" "lengths" "[I", Cond.methodLink RX6 129 yX6_free, Cond.instanceMethod yX6_free, Cond.selects RX6 yX6_free yX6_free, Cond.code yX6_free cX6_free 6 (some .int), Cond.fieldLink RX6 33 "OpticmeshModel" "used" "[I", Cond.fieldLink RX6 30 "OpticmeshModel" "areCut" "[Z", Cond.methodLink RX6 133 yX6_cost, Cond.instanceMethod yX6_cost]
def wsX6_reroute_r3 : List Cond := [Cond.selects RX6 yX6_cost yX6_cost, Cond.code yX6_cost cX6_cost 8 (some .int), Cond.fieldLink RX6 16 "OpticmeshModel" "doConvert" "[Z", Cond.methodLink RX6 137 yX6_follows, Cond.instanceMethod yX6_follows, Cond.selects RX6 yX6_follows yX6_follows, Cond.code yX6_follows cX6_follows 6 (some .int), Cond.methodLink RX6 153 yX6_isAhead, Cond.static yX6_isAhead, Cond.code yX6_isAhead cX6_isAhead 3 (some .boolean), Cond.methodLink RX6 157 yX6_copies, Cond.static yX6_copies, Cond.code yX6_copies cX6_copies 3 none, Cond.methodLink RX6 103 yX6_holds, Cond.instanceMethod yX6_holds, Cond.selects RX6 yX6_holds yX6_holds, Cond.code yX6_holds cX6_holds 2 (some .boolean), Cond.fieldLink RX6 87 "OpticmeshModel" "thrown" "I", Cond.methodLink RX6 185 yX6_uses, Cond.instanceMethod yX6_uses, Cond.selects RX6 yX6_uses yX6_uses, Cond.code yX6_uses cX6_uses 5 none, Cond.methodLink RX6 178 yX6_way, Cond.instanceMethod yX6_way]
def wsX6_reroute_r4 : List Cond := [Cond.selects RX6 yX6_way yX6_way, Cond.code yX6_way cX6_way 4 (some .int), Cond.fieldLink RX6 51 "OpticmeshModel" "laid" "[I", Cond.methodLink RX6 182 yX6_placeOf, Cond.static yX6_placeOf, Cond.code yX6_placeOf cX6_placeOf 1 (some .int), Cond.methodLink RX6 195 yX6_gets, Cond.instanceMethod yX6_gets, Cond.selects RX6 yX6_gets yX6_gets, Cond.code yX6_gets cX6_gets 5 none]
def wsX6_reroute : List Cond := .code yX6_reroute cX6_reroute 3 (some .int) :: ((wsX6_reroute_r1 ++ (wsX6_reroute_r2 ++ (wsX6_reroute_r3 ++ wsX6_reroute_r4))) ++ wsX60)
def wsX6_areMergeable_r1 : List Cond := [Cond.fieldLink RX6 48 "OpticmeshModel" "ways" "[I", Cond.fieldLink RX6 42 "OpticmeshModel" "starts" "[I", Cond.fieldLink RX6 45 "OpticmeshModel" "ends" "[I", Cond.methodLink RX6 111 yX6_isUp, Cond.instanceMethod yX6_isUp, Cond.selects RX6 yX6_isUp yX6_isUp, Cond.initialized RX6, Cond.code yX6_isUp cX6_isUp 5 (some .boolean), Cond.fieldLink RX6 30 "OpticmeshModel" "areCut" "[Z", Cond.methodLink RX6 178 yX6_way, Cond.instanceMethod yX6_way, Cond.selects RX6 yX6_way yX6_way, Cond.code yX6_way cX6_way 4 (some .int), Cond.fieldLink RX6 51 "OpticmeshModel" "laid" "[I", Cond.methodLink RX6 189 yX6_haveSameEnds, Cond.instanceMethod yX6_haveSameEnds, Cond.selects RX6 yX6_haveSameEnds yX6_haveSameEnds, Cond.code yX6_haveSameEnds cX6_haveSameEnds 4 (some .boolean), Cond.methodLink RX6 192 yX6_carried, Cond.instanceMethod yX6_carried, Cond.selects RX6 yX6_carried yX6_carried, Cond.code yX6_carried cX6_carried 4 (some .int), Cond.fieldLink RX6 93 "OpticmeshModel" "requests" "I", Cond.fieldLink RX6 36 "OpticmeshModel" "carriers" "[I"]
def wsX6_areMergeable_r2 : List Cond := [Cond.fieldLink RX6 39 "OpticmeshModel" "demands" "[I"]
def wsX6_areMergeable : List Cond := .code yX6_areMergeable cX6_areMergeable 3 (some .boolean) :: ((wsX6_areMergeable_r1 ++ wsX6_areMergeable_r2) ++ wsX60)
def wsX6_takesOver : List Cond := .code yX6_takesOver cX6_takesOver 4 none :: ([.fieldLink RX6 93 "OpticmeshModel" "requests" "I", .fieldLink RX6 36 "OpticmeshModel" "carriers" "[I", .fieldLink RX6 39 "OpticmeshModel" "demands" "[I", .methodLink RX6 215 yX6_ends, .instanceMethod yX6_ends, .selects RX6 yX6_ends yX6_ends, .initialized RX6, .code yX6_ends cX6_ends 3 none, .fieldLink RX6 48 "OpticmeshModel" "ways" "[I", .methodLink RX6 185 yX6_uses, .instanceMethod yX6_uses, .selects RX6 yX6_uses yX6_uses, .code yX6_uses cX6_uses 5 none, .fieldLink RX6 33 "OpticmeshModel" "used" "[I", .methodLink RX6 178 yX6_way, .instanceMethod yX6_way, .selects RX6 yX6_way yX6_way, .code yX6_way cX6_way 4 (some .int), .fieldLink RX6 51 "OpticmeshModel" "laid" "[I", .methodLink RX6 182 yX6_placeOf, .static yX6_placeOf, .code yX6_placeOf cX6_placeOf 1 (some .int)] ++ wsX60)
def wsX6_merge_r1 : List Cond := [Cond.fieldLink RX6 96 "OpticmeshModel" "lights" "I", Cond.fieldLink RX6 87 "OpticmeshModel" "thrown" "I", Cond.methodLink RX6 224 yX6_areMergeable, Cond.instanceMethod yX6_areMergeable, Cond.selects RX6 yX6_areMergeable yX6_areMergeable, Cond.initialized RX6, Cond.code yX6_areMergeable cX6_areMergeable 3 (some .boolean), Cond.fieldLink RX6 48 "OpticmeshModel" "ways" "[I", Cond.fieldLink RX6 42 "OpticmeshModel" "starts" "[I", Cond.fieldLink RX6 45 "OpticmeshModel" "ends" "[I", Cond.methodLink RX6 111 yX6_isUp, Cond.instanceMethod yX6_isUp, Cond.selects RX6 yX6_isUp yX6_isUp, Cond.code yX6_isUp cX6_isUp 5 (some .boolean), Cond.fieldLink RX6 30 "OpticmeshModel" "areCut" "[Z", Cond.methodLink RX6 178 yX6_way, Cond.instanceMethod yX6_way, Cond.selects RX6 yX6_way yX6_way, Cond.code yX6_way cX6_way 4 (some .int), Cond.fieldLink RX6 51 "OpticmeshModel" "laid" "[I", Cond.methodLink RX6 189 yX6_haveSameEnds, Cond.instanceMethod yX6_haveSameEnds, Cond.selects RX6 yX6_haveSameEnds yX6_haveSameEnds, Cond.code yX6_haveSameEnds cX6_haveSameEnds 4 (some .boolean)]
def wsX6_merge_r2 : List Cond := [Cond.methodLink RX6 192 yX6_carried, Cond.instanceMethod yX6_carried, Cond.selects RX6 yX6_carried yX6_carried, Cond.code yX6_carried cX6_carried 4 (some .int), Cond.fieldLink RX6 93 "OpticmeshModel" "requests" "I", Cond.fieldLink RX6 36 "OpticmeshModel" "carriers" "[I", Cond.fieldLink RX6 39 "OpticmeshModel" "demands" "[I", Cond.methodLink RX6 227 yX6_takesOver, Cond.instanceMethod yX6_takesOver, Cond.selects RX6 yX6_takesOver yX6_takesOver, Cond.code yX6_takesOver cX6_takesOver 4 none, Cond.methodLink RX6 215 yX6_ends, Cond.instanceMethod yX6_ends, Cond.selects RX6 yX6_ends yX6_ends, Cond.code yX6_ends cX6_ends 3 none, Cond.methodLink RX6 185 yX6_uses, Cond.instanceMethod yX6_uses, Cond.selects RX6 yX6_uses yX6_uses, Cond.code yX6_uses cX6_uses 5 none, Cond.fieldLink RX6 33 "OpticmeshModel" "used" "[I", Cond.methodLink RX6 182 yX6_placeOf, Cond.static yX6_placeOf, Cond.code yX6_placeOf cX6_placeOf 1 (some .int)]
def wsX6_merge : List Cond := .code yX6_merge cX6_merge 3 (some .int) :: ((wsX6_merge_r1 ++ wsX6_merge_r2) ++ wsX60)
def wsX6_lower : List Cond := .code yX6_lower cX6_lower 8 (some .int) :: ([.fieldLink RX6 33 "OpticmeshModel" "used" "[I", .methodLink RX6 178 yX6_way, .instanceMethod yX6_way, .selects RX6 yX6_way yX6_way, .initialized RX6, .code yX6_way cX6_way 4 (some .int), .fieldLink RX6 51 "OpticmeshModel" "laid" "[I"] ++ wsX60)
def wsX6_moves : List Cond := .code yX6_moves cX6_moves 5 none :: ([.fieldLink RX6 51 "OpticmeshModel" "laid" "[I", .methodLink RX6 185 yX6_uses, .instanceMethod yX6_uses, .selects RX6 yX6_uses yX6_uses, .initialized RX6, .code yX6_uses cX6_uses 5 none, .fieldLink RX6 33 "OpticmeshModel" "used" "[I", .methodLink RX6 178 yX6_way, .instanceMethod yX6_way, .selects RX6 yX6_way yX6_way, .code yX6_way cX6_way 4 (some .int), .methodLink RX6 182 yX6_placeOf, .static yX6_placeOf, .code yX6_placeOf cX6_placeOf 1 (some .int)] ++ wsX60)
def wsX6_move_r1 : List Cond := [Cond.fieldLink RX6 96 "OpticmeshModel" "lights" "I", Cond.fieldLink RX6 48 "OpticmeshModel" "ways" "[I", Cond.fieldLink RX6 87 "OpticmeshModel" "thrown" "I", Cond.methodLink RX6 231 yX6_lower, Cond.instanceMethod yX6_lower, Cond.selects RX6 yX6_lower yX6_lower, Cond.initialized RX6, Cond.code yX6_lower cX6_lower 8 (some .int), Cond.fieldLink RX6 33 "OpticmeshModel" "used" "[I", Cond.methodLink RX6 178 yX6_way, Cond.instanceMethod yX6_way, Cond.selects RX6 yX6_way yX6_way, Cond.code yX6_way cX6_way 4 (some .int), Cond.fieldLink RX6 51 "OpticmeshModel" "laid" "[I", Cond.methodLink RX6 234 yX6_moves, Cond.instanceMethod yX6_moves, Cond.selects RX6 yX6_moves yX6_moves, Cond.code yX6_moves cX6_moves 5 none, Cond.methodLink RX6 185 yX6_uses, Cond.instanceMethod yX6_uses, Cond.selects RX6 yX6_uses yX6_uses, Cond.code yX6_uses cX6_uses 5 none, Cond.methodLink RX6 182 yX6_placeOf, Cond.static yX6_placeOf]
def wsX6_move_r2 : List Cond := [Cond.code yX6_placeOf cX6_placeOf 1 (some .int)]
def wsX6_move : List Cond := .code yX6_move cX6_move 4 (some .int) :: ((wsX6_move_r1 ++ wsX6_move_r2) ++ wsX60)
def wsX6_fibresOf : List Cond := .code yX6_fibresOf cX6_fibresOf 4 (some .int) :: ([.methodLink RX6 178 yX6_way, .instanceMethod yX6_way, .selects RX6 yX6_way yX6_way, .initialized RX6, .code yX6_way cX6_way 4 (some .int), .fieldLink RX6 51 "OpticmeshModel" "laid" "[I"] ++ wsX60)
def wsX6_laysCrossed : List Cond := .code yX6_laysCrossed cX6_laysCrossed 4 (some .int) :: ([.fieldLink RX6 96 "OpticmeshModel" "lights" "I", .fieldLink RX6 48 "OpticmeshModel" "ways" "[I", .fieldLink RX6 75 "OpticmeshModel" "alive" "[I", .fieldLink RX6 78 "OpticmeshModel" "crossed" "[I", .methodLink RX6 237 yX6_fibresOf, .instanceMethod yX6_fibresOf, .selects RX6 yX6_fibresOf yX6_fibresOf, .initialized RX6, .code yX6_fibresOf cX6_fibresOf 4 (some .int), .methodLink RX6 178 yX6_way, .instanceMethod yX6_way, .selects RX6 yX6_way yX6_way, .code yX6_way cX6_way 4 (some .int), .fieldLink RX6 51 "OpticmeshModel" "laid" "[I"] ++ wsX60)
def wsX6_isApart : List Cond := .code yX6_isApart cX6_isApart 4 (some .boolean) :: ([.fieldLink RX6 78 "OpticmeshModel" "crossed" "[I"] ++ wsX60)
def wsX6_wavelengthsNeeded : List Cond := .code yX6_wavelengthsNeeded cX6_wavelengthsNeeded 5 (some .int) :: ([.fieldLink RX6 87 "OpticmeshModel" "thrown" "I", .fieldLink RX6 81 "OpticmeshModel" "needed" "[I", .methodLink RX6 240 yX6_laysCrossed, .instanceMethod yX6_laysCrossed, .selects RX6 yX6_laysCrossed yX6_laysCrossed, .initialized RX6, .code yX6_laysCrossed cX6_laysCrossed 4 (some .int), .fieldLink RX6 96 "OpticmeshModel" "lights" "I", .fieldLink RX6 48 "OpticmeshModel" "ways" "[I", .fieldLink RX6 75 "OpticmeshModel" "alive" "[I", .fieldLink RX6 78 "OpticmeshModel" "crossed" "[I", .methodLink RX6 237 yX6_fibresOf, .instanceMethod yX6_fibresOf, .selects RX6 yX6_fibresOf yX6_fibresOf, .code yX6_fibresOf cX6_fibresOf 4 (some .int), .methodLink RX6 178 yX6_way, .instanceMethod yX6_way, .selects RX6 yX6_way yX6_way, .code yX6_way cX6_way 4 (some .int), .fieldLink RX6 51 "OpticmeshModel" "laid" "[I", .methodLink RX6 243 yX6_isApart, .instanceMethod yX6_isApart, .selects RX6 yX6_isApart yX6_isApart, .code yX6_isApart cX6_isApart 4 (some .boolean)] ++ wsX60)
def wsJ9_max_7cf53 : List Cond := .code yJ9_max_7cf53 cJ9_max_7cf53 2 (some .int) :: ([])
def wsL_begin : List Cond := .codeWith yL_begin cL_begin 4 (some .int) [(0, 6, 9, 13)] :: ([.classLink RL 13 "java/lang/IllegalArgumentException", .methodLink RL 7 yX5_begin, .instanceMethod yX5_begin, .selects RX5 yX5_begin yX5_begin, .initialized RX5, .code yX5_begin cX5_begin 3 none, .classLink RX5 48 "java/lang/IllegalArgumentException", .initialized "java/lang/IllegalArgumentException", .fieldLink RX5 12 "Opticmesh" "network" "LOpticmesh$Network;", .fieldLink RX5 59 "Opticmesh" "lightCount" "I", .fieldLink RX5 63 "Opticmesh" "requestCount" "I", .methodLink RX5 55 yX2_startAgain, .instanceMethod yX2_startAgain, .selects RX2 yX2_startAgain yX2_startAgain, .initialized RX2, .code yX2_startAgain cX2_startAgain 3 none, .fieldLink RX2 9 "Opticmesh$Network" "nodeCount" "I", .fieldLink RX2 15 "Opticmesh$Network" "wavelengthCount" "I", .fieldLink RX2 28 "Opticmesh$Network" "fibreCount" "I", .fieldLink RX2 31 "Opticmesh$Network" "converters" "I", .fieldLink RX2 34 "Opticmesh$Network" "cutFibres" "I"] ++ wsX50 ++ wsX20 ++ (vx_atS RX5 52 "java/lang/IllegalArgumentException" ["java/lang/RuntimeException", "java/lang/Exception"]).filter goodWord)
def wsL_addFibre_r1 : List Cond := [Cond.classLink RL 13 "java/lang/IllegalArgumentException", Cond.classLink RL 19 "java/lang/IllegalStateException", Cond.methodLink RL 15 yX5_addFibre, Cond.instanceMethod yX5_addFibre, Cond.selects RX5 yX5_addFibre yX5_addFibre, Cond.initialized RX5, Cond.code yX5_addFibre cX5_addFibre 5 (some .int), Cond.classLink RX5 48 "java/lang/IllegalArgumentException", Cond.initialized "java/lang/IllegalArgumentException", Cond.classLink RX5 76 "java/lang/IllegalStateException", Cond.initialized "java/lang/IllegalStateException", Cond.fieldLink RX5 12 "Opticmesh" "network" "LOpticmesh$Network;", Cond.methodLink RX5 66 yX5_areTwoNodes, Cond.instanceMethod yX5_areTwoNodes, Cond.selects RX5 yX5_areTwoNodes yX5_areTwoNodes, Cond.code yX5_areTwoNodes cX5_areTwoNodes 3 (some .boolean), Cond.methodLink RX5 81 yX2_hasNode, Cond.instanceMethod yX2_hasNode, Cond.selects RX2 yX2_hasNode yX2_hasNode, Cond.initialized RX2, Cond.code yX2_hasNode cX2_hasNode 2 (some .boolean), Cond.fieldLink RX2 9 "Opticmesh$Network" "nodeCount" "I", Cond.methodLink RX5 72 yX2_join, Cond.instanceMethod yX2_join]
def wsL_addFibre_r2 : List Cond := [Cond.selects RX2 yX2_join yX2_join, Cond.code yX2_join cX2_join 5 (some .int), Cond.fieldLink RX2 28 "Opticmesh$Network" "fibreCount" "I", Cond.fieldLink RX2 18 "Opticmesh$Network" "ones" "[I", Cond.fieldLink RX2 22 "Opticmesh$Network" "others" "[I", Cond.fieldLink RX2 25 "Opticmesh$Network" "lengths" "[I"]
def wsL_addFibre : List Cond := .codeWith yL_addFibre cL_addFibre 6 (some .int) [(0, 12, 15, 13), (0, 12, 19, 19)] :: ((wsL_addFibre_r1 ++ wsL_addFibre_r2) ++ wsX50 ++ wsX20 ++ (vx_atS RX5 52 "java/lang/IllegalArgumentException" ["java/lang/RuntimeException", "java/lang/Exception"]).filter goodWord ++ (vx_atS RX5 80 "java/lang/IllegalStateException" ["java/lang/RuntimeException", "java/lang/Exception"]).filter goodWord)
def wsL_toggleConverter : List Cond := .codeWith yL_toggleConverter cL_toggleConverter 4 (some .int) [(0, 16, 19, 13)] :: ([.classLink RL 13 "java/lang/IllegalArgumentException", .methodLink RL 21 yX5_toggleConverter, .instanceMethod yX5_toggleConverter, .selects RX5 yX5_toggleConverter yX5_toggleConverter, .initialized RX5, .code yX5_toggleConverter cX5_toggleConverter 2 (some .boolean), .classLink RX5 48 "java/lang/IllegalArgumentException", .initialized "java/lang/IllegalArgumentException", .fieldLink RX5 12 "Opticmesh" "network" "LOpticmesh$Network;", .fieldLink RX5 87 "Opticmesh$Network" "converters" "I", .methodLink RX5 81 yX2_hasNode, .instanceMethod yX2_hasNode, .selects RX2 yX2_hasNode yX2_hasNode, .initialized RX2, .code yX2_hasNode cX2_hasNode 2 (some .boolean), .fieldLink RX2 9 "Opticmesh$Network" "nodeCount" "I"] ++ wsX50 ++ wsX20 ++ (vx_atS RX5 52 "java/lang/IllegalArgumentException" ["java/lang/RuntimeException", "java/lang/Exception"]).filter goodWord)
def wsL_cut_r1 : List Cond := [Cond.classLink RL 29 "java/lang/IndexOutOfBoundsException", Cond.classLink RL 19 "java/lang/IllegalStateException", Cond.methodLink RL 25 yX5_cut, Cond.instanceMethod yX5_cut, Cond.selects RX5 yX5_cut yX5_cut, Cond.initialized RX5, Cond.code yX5_cut cX5_cut 3 (some .int), Cond.classLink RX5 76 "java/lang/IllegalStateException", Cond.initialized "java/lang/IllegalStateException", Cond.fieldLink RX5 12 "Opticmesh" "network" "LOpticmesh$Network;", Cond.fieldLink RX5 102 "Opticmesh$Network" "cutFibres" "I", Cond.methodLink RX5 90 yX5_requireFibre, Cond.instanceMethod yX5_requireFibre, Cond.selects RX5 yX5_requireFibre yX5_requireFibre, Cond.code yX5_requireFibre cX5_requireFibre 2 none, Cond.classLink RX5 198 "java/lang/IndexOutOfBoundsException", Cond.initialized "java/lang/IndexOutOfBoundsException", Cond.methodLink RX5 264 yX2_hasFibre, Cond.instanceMethod yX2_hasFibre, Cond.selects RX2 yX2_hasFibre yX2_hasFibre, Cond.initialized RX2, Cond.code yX2_hasFibre cX2_hasFibre 2 (some .boolean), Cond.fieldLink RX2 28 "Opticmesh$Network" "fibreCount" "I", Cond.methodLink RX5 93 yX2_isCut]
def wsL_cut_r2 : List Cond := [Cond.instanceMethod yX2_isCut, Cond.selects RX2 yX2_isCut yX2_isCut, Cond.code yX2_isCut cX2_isCut 2 (some .boolean), Cond.fieldLink RX2 34 "Opticmesh$Network" "cutFibres" "I", Cond.methodLink RX5 98 yX5_lightsUp, Cond.instanceMethod yX5_lightsUp, Cond.selects RX5 yX5_lightsUp yX5_lightsUp, Cond.code yX5_lightsUp cX5_lightsUp 3 (some .int), Cond.fieldLink RX5 59 "Opticmesh" "lightCount" "I", Cond.fieldLink RX5 34 "Opticmesh" "lightList" "[LOpticmesh$Light;", Cond.methodLink RX5 188 yX1_isUp, Cond.instanceMethod yX1_isUp, Cond.selects RX1 yX1_isUp yX1_isUp, Cond.initialized RX1, Cond.code yX1_isUp cX1_isUp 2 (some .boolean), Cond.fieldLink RX1 10 "Opticmesh$Light" "first" "LOpticmesh$Way;", Cond.fieldLink RX1 44 "Opticmesh$Way" "fibres" "I", Cond.fieldLink RX1 36 "Opticmesh$Light" "isProtected" "Z", Cond.fieldLink RX1 16 "Opticmesh$Light" "second" "LOpticmesh$Way;", Cond.methodLink RX1 40 yX1_isGone, Cond.instanceMethod yX1_isGone, Cond.selects RX1 yX1_isGone yX1_isGone, Cond.code yX1_isGone cX1_isGone 1 (some .boolean), Cond.fieldLink RX1 29 "Opticmesh$Light" "units" "I"]
def wsL_cut : List Cond := .codeWith yL_cut cL_cut 4 (some .int) [(0, 9, 12, 29), (0, 9, 15, 19)] :: ((wsL_cut_r1 ++ wsL_cut_r2) ++ wsX50 ++ wsX20 ++ wsX10 ++ wsX30 ++ (vx_atS RX5 80 "java/lang/IllegalStateException" ["java/lang/RuntimeException", "java/lang/Exception"]).filter goodWord ++ (vx_atS RX5 202 "java/lang/IndexOutOfBoundsException" ["java/lang/RuntimeException", "java/lang/Exception"]).filter goodWord)
def wsL_repair_r1 : List Cond := [Cond.classLink RL 29 "java/lang/IndexOutOfBoundsException", Cond.classLink RL 19 "java/lang/IllegalStateException", Cond.methodLink RL 31 yX5_repair, Cond.instanceMethod yX5_repair, Cond.selects RX5 yX5_repair yX5_repair, Cond.initialized RX5, Cond.code yX5_repair cX5_repair 3 (some .int), Cond.classLink RX5 76 "java/lang/IllegalStateException", Cond.initialized "java/lang/IllegalStateException", Cond.fieldLink RX5 12 "Opticmesh" "network" "LOpticmesh$Network;", Cond.fieldLink RX5 102 "Opticmesh$Network" "cutFibres" "I", Cond.methodLink RX5 90 yX5_requireFibre, Cond.instanceMethod yX5_requireFibre, Cond.selects RX5 yX5_requireFibre yX5_requireFibre, Cond.code yX5_requireFibre cX5_requireFibre 2 none, Cond.classLink RX5 198 "java/lang/IndexOutOfBoundsException", Cond.initialized "java/lang/IndexOutOfBoundsException", Cond.methodLink RX5 264 yX2_hasFibre, Cond.instanceMethod yX2_hasFibre, Cond.selects RX2 yX2_hasFibre yX2_hasFibre, Cond.initialized RX2, Cond.code yX2_hasFibre cX2_hasFibre 2 (some .boolean), Cond.fieldLink RX2 28 "Opticmesh$Network" "fibreCount" "I", Cond.methodLink RX5 93 yX2_isCut]
def wsL_repair_r2 : List Cond := [Cond.instanceMethod yX2_isCut, Cond.selects RX2 yX2_isCut yX2_isCut, Cond.code yX2_isCut cX2_isCut 2 (some .boolean), Cond.fieldLink RX2 34 "Opticmesh$Network" "cutFibres" "I", Cond.methodLink RX5 98 yX5_lightsUp, Cond.instanceMethod yX5_lightsUp, Cond.selects RX5 yX5_lightsUp yX5_lightsUp, Cond.code yX5_lightsUp cX5_lightsUp 3 (some .int), Cond.fieldLink RX5 59 "Opticmesh" "lightCount" "I", Cond.fieldLink RX5 34 "Opticmesh" "lightList" "[LOpticmesh$Light;", Cond.methodLink RX5 188 yX1_isUp, Cond.instanceMethod yX1_isUp, Cond.selects RX1 yX1_isUp yX1_isUp, Cond.initialized RX1, Cond.code yX1_isUp cX1_isUp 2 (some .boolean), Cond.fieldLink RX1 10 "Opticmesh$Light" "first" "LOpticmesh$Way;", Cond.fieldLink RX1 44 "Opticmesh$Way" "fibres" "I", Cond.fieldLink RX1 36 "Opticmesh$Light" "isProtected" "Z", Cond.fieldLink RX1 16 "Opticmesh$Light" "second" "LOpticmesh$Way;", Cond.methodLink RX1 40 yX1_isGone, Cond.instanceMethod yX1_isGone, Cond.selects RX1 yX1_isGone yX1_isGone, Cond.code yX1_isGone cX1_isGone 1 (some .boolean), Cond.fieldLink RX1 29 "Opticmesh$Light" "units" "I"]
def wsL_repair : List Cond := .codeWith yL_repair cL_repair 4 (some .int) [(0, 9, 12, 29), (0, 9, 15, 19)] :: ((wsL_repair_r1 ++ wsL_repair_r2) ++ wsX50 ++ wsX20 ++ wsX10 ++ wsX30 ++ (vx_atS RX5 80 "java/lang/IllegalStateException" ["java/lang/RuntimeException", "java/lang/Exception"]).filter goodWord ++ (vx_atS RX5 202 "java/lang/IndexOutOfBoundsException" ["java/lang/RuntimeException", "java/lang/Exception"]).filter goodWord)
def wsL_lightOn_r1 : List Cond := [Cond.classLink RL 29 "java/lang/IndexOutOfBoundsException", Cond.classLink RL 13 "java/lang/IllegalArgumentException", Cond.methodLink RL 34 yX5_lightOn, Cond.instanceMethod yX5_lightOn, Cond.selects RX5 yX5_lightOn yX5_lightOn, Cond.initialized RX5, Cond.code yX5_lightOn cX5_lightOn 4 (some .int), Cond.classLink RX5 48 "java/lang/IllegalArgumentException", Cond.initialized "java/lang/IllegalArgumentException", Cond.fieldLink RX5 12 "Opticmesh" "network" "LOpticmesh$Network;", Cond.fieldLink RX5 107 "Opticmesh$Network" "wavelengthCount" "I", Cond.fieldLink RX5 59 "Opticmesh" "lightCount" "I", Cond.fieldLink RX5 34 "Opticmesh" "lightList" "[LOpticmesh$Light;", Cond.methodLink RX5 90 yX5_requireFibre, Cond.instanceMethod yX5_requireFibre, Cond.selects RX5 yX5_requireFibre yX5_requireFibre, Cond.code yX5_requireFibre cX5_requireFibre 2 none, Cond.classLink RX5 198 "java/lang/IndexOutOfBoundsException", Cond.initialized "java/lang/IndexOutOfBoundsException", Cond.methodLink RX5 264 yX2_hasFibre, Cond.instanceMethod yX2_hasFibre, Cond.selects RX2 yX2_hasFibre yX2_hasFibre, Cond.initialized RX2, Cond.code yX2_hasFibre cX2_hasFibre 2 (some .boolean)]
def wsL_lightOn_r2 : List Cond := [Cond.fieldLink RX2 28 "Opticmesh$Network" "fibreCount" "I", Cond.methodLink RX5 112 yX1_wavelengthsOn, Cond.instanceMethod yX1_wavelengthsOn, Cond.selects RX1 yX1_wavelengthsOn yX1_wavelengthsOn, Cond.initialized RX1, Cond.code yX1_wavelengthsOn cX1_wavelengthsOn 3 (some .int), Cond.fieldLink RX1 10 "Opticmesh$Light" "first" "LOpticmesh$Way;", Cond.fieldLink RX1 36 "Opticmesh$Light" "isProtected" "Z", Cond.fieldLink RX1 16 "Opticmesh$Light" "second" "LOpticmesh$Way;", Cond.methodLink RX1 40 yX1_isGone, Cond.instanceMethod yX1_isGone, Cond.selects RX1 yX1_isGone yX1_isGone, Cond.code yX1_isGone cX1_isGone 1 (some .boolean), Cond.fieldLink RX1 29 "Opticmesh$Light" "units" "I", Cond.methodLink RX1 47 yX3_wavelengthsOn, Cond.instanceMethod yX3_wavelengthsOn, Cond.selects RX3 yX3_wavelengthsOn yX3_wavelengthsOn, Cond.initialized RX3, Cond.code yX3_wavelengthsOn cX3_wavelengthsOn 5 (some .int), Cond.fieldLink RX3 7 "Opticmesh$Way" "count" "I", Cond.methodLink RX3 30 yX3_uses, Cond.instanceMethod yX3_uses, Cond.selects RX3 yX3_uses yX3_uses, Cond.code yX3_uses cX3_uses 2 (some .boolean)]
def wsL_lightOn_r3 : List Cond := [Cond.fieldLink RX3 19 "Opticmesh$Way" "fibres" "I", Cond.methodLink RX3 26 yX3_channelAt, Cond.instanceMethod yX3_channelAt, Cond.selects RX3 yX3_channelAt yX3_channelAt, Cond.code yX3_channelAt cX3_channelAt 2 (some .int), Cond.fieldLink RX3 22 "Opticmesh$Way" "channelBytes" "J"]
def wsL_lightOn : List Cond := .codeWith yL_lightOn cL_lightOn 5 (some .int) [(0, 10, 13, 29), (0, 10, 17, 13)] :: ((wsL_lightOn_r1 ++ (wsL_lightOn_r2 ++ wsL_lightOn_r3)) ++ wsX50 ++ wsX20 ++ wsX10 ++ wsX30 ++ (vx_atS RX5 52 "java/lang/IllegalArgumentException" ["java/lang/RuntimeException", "java/lang/Exception"]).filter goodWord ++ (vx_atS RX5 202 "java/lang/IndexOutOfBoundsException" ["java/lang/RuntimeException", "java/lang/Exception"]).filter goodWord)
def wsL_usage_r1 : List Cond := [Cond.classLink RL 19 "java/lang/IllegalStateException", Cond.methodLink RL 38 yX5_usage, Cond.instanceMethod yX5_usage, Cond.selects RX5 yX5_usage yX5_usage, Cond.initialized RX5, Cond.code yX5_usage cX5_usage 4 (some .float), Cond.classLink RX5 76 "java/lang/IllegalStateException", Cond.initialized "java/lang/IllegalStateException", Cond.fieldLink RX5 12 "Opticmesh" "network" "LOpticmesh$Network;", Cond.fieldLink RX5 116 "Opticmesh$Network" "fibreCount" "I", Cond.fieldLink RX5 107 "Opticmesh$Network" "wavelengthCount" "I", Cond.methodLink RX5 119 yX5_wavelengthsUsed, Cond.instanceMethod yX5_wavelengthsUsed, Cond.selects RX5 yX5_wavelengthsUsed yX5_wavelengthsUsed, Cond.code yX5_wavelengthsUsed cX5_wavelengthsUsed 5 (some .int), Cond.fieldLink RX5 59 "Opticmesh" "lightCount" "I", Cond.fieldLink RX5 34 "Opticmesh" "lightList" "[LOpticmesh$Light;", Cond.methodLink RX5 112 yX1_wavelengthsOn, Cond.instanceMethod yX1_wavelengthsOn, Cond.selects RX1 yX1_wavelengthsOn yX1_wavelengthsOn, Cond.initialized RX1, Cond.code yX1_wavelengthsOn cX1_wavelengthsOn 3 (some .int), Cond.fieldLink RX1 10 "Opticmesh$Light" "first" "LOpticmesh$Way;", Cond.fieldLink RX1 36 "Opticmesh$Light" "isProtected" "Z"]
def wsL_usage_r2 : List Cond := [Cond.fieldLink RX1 16 "Opticmesh$Light" "second" "LOpticmesh$Way;", Cond.methodLink RX1 40 yX1_isGone, Cond.instanceMethod yX1_isGone, Cond.selects RX1 yX1_isGone yX1_isGone, Cond.code yX1_isGone cX1_isGone 1 (some .boolean), Cond.fieldLink RX1 29 "Opticmesh$Light" "units" "I", Cond.methodLink RX1 47 yX3_wavelengthsOn, Cond.instanceMethod yX3_wavelengthsOn, Cond.selects RX3 yX3_wavelengthsOn yX3_wavelengthsOn, Cond.initialized RX3, Cond.code yX3_wavelengthsOn cX3_wavelengthsOn 5 (some .int), Cond.fieldLink RX3 7 "Opticmesh$Way" "count" "I", Cond.methodLink RX3 30 yX3_uses, Cond.instanceMethod yX3_uses, Cond.selects RX3 yX3_uses yX3_uses, Cond.code yX3_uses cX3_uses 2 (some .boolean), Cond.fieldLink RX3 19 "Opticmesh$Way" "fibres" "I", Cond.methodLink RX3 26 yX3_channelAt, Cond.instanceMethod yX3_channelAt, Cond.selects RX3 yX3_channelAt yX3_channelAt, Cond.code yX3_channelAt cX3_channelAt 2 (some .int), Cond.fieldLink RX3 22 "Opticmesh$Way" "channelBytes" "J", Cond.methodLink RX5 123 yJ6_bitCount_0f7a4, Cond.static yJ6_bitCount_0f7a4]
def wsL_usage_r3 : List Cond := [Cond.initialized RJ6, Cond.code yJ6_bitCount_0f7a4 cJ6_bitCount_0f7a4 1 (some .int), Cond.constant RJ6 265 (1431655765), Cond.constant RJ6 266 (858993459), Cond.constant RJ6 267 (252645135)]
def wsL_usage : List Cond := .codeWith yL_usage cL_usage 3 (some .int) [(0, 8, 11, 19)] :: ((wsL_usage_r1 ++ (wsL_usage_r2 ++ wsL_usage_r3)) ++ wsX50 ++ wsX20 ++ wsX10 ++ wsX30 ++ (vx_atS RX5 80 "java/lang/IllegalStateException" ["java/lang/RuntimeException", "java/lang/Exception"]).filter goodWord)
def wsL_request_r1 : List Cond := [Cond.classLink RL 13 "java/lang/IllegalArgumentException", Cond.classLink RL 19 "java/lang/IllegalStateException", Cond.methodLink RL 42 yX5_request, Cond.instanceMethod yX5_request, Cond.selects RX5 yX5_request yX5_request, Cond.initialized RX5, Cond.code yX5_request cX5_request 6 (some .int), Cond.classLink RX5 48 "java/lang/IllegalArgumentException", Cond.initialized "java/lang/IllegalArgumentException", Cond.classLink RX5 76 "java/lang/IllegalStateException", Cond.initialized "java/lang/IllegalStateException", Cond.fieldLink RX5 63 "Opticmesh" "requestCount" "I", Cond.fieldLink RX5 155 "Opticmesh$Light" "units" "I", Cond.fieldLink RX5 41 "Opticmesh" "carriers" "[LOpticmesh$Light;", Cond.fieldLink RX5 44 "Opticmesh" "demands" "[I", Cond.methodLink RX5 66 yX5_areTwoNodes, Cond.instanceMethod yX5_areTwoNodes, Cond.selects RX5 yX5_areTwoNodes yX5_areTwoNodes, Cond.code yX5_areTwoNodes cX5_areTwoNodes 3 (some .boolean), Cond.fieldLink RX5 12 "Opticmesh" "network" "LOpticmesh$Network;", Cond.methodLink RX5 81 yX2_hasNode, Cond.instanceMethod yX2_hasNode, Cond.selects RX2 yX2_hasNode yX2_hasNode, Cond.initialized RX2]
def wsL_request_r2 : List Cond := [Cond.code yX2_hasNode cX2_hasNode 2 (some .boolean), Cond.fieldLink RX2 9 "Opticmesh$Network" "nodeCount" "I", Cond.methodLink RX5 136 yX5_isRule, Cond.static yX5_isRule, Cond.code yX5_isRule cX5_isRule 1 (some .boolean), Cond.methodLink RX5 143 yX5_lightWithRoom, Cond.instanceMethod yX5_lightWithRoom, Cond.selects RX5 yX5_lightWithRoom yX5_lightWithRoom, Cond.code yX5_lightWithRoom cX5_lightWithRoom 7 (some (.object "Opticmesh$Light")), Cond.fieldLink RX5 59 "Opticmesh" "lightCount" "I", Cond.fieldLink RX5 34 "Opticmesh" "lightList" "[LOpticmesh$Light;", Cond.fieldLink RX5 102 "Opticmesh$Network" "cutFibres" "I", Cond.fieldLink RX5 206 "Opticmesh$Light" "isProtected" "Z", Cond.methodLink RX5 188 yX1_isUp, Cond.instanceMethod yX1_isUp, Cond.selects RX1 yX1_isUp yX1_isUp, Cond.initialized RX1, Cond.code yX1_isUp cX1_isUp 2 (some .boolean), Cond.fieldLink RX1 10 "Opticmesh$Light" "first" "LOpticmesh$Way;", Cond.fieldLink RX1 44 "Opticmesh$Way" "fibres" "I", Cond.fieldLink RX1 36 "Opticmesh$Light" "isProtected" "Z", Cond.fieldLink RX1 16 "Opticmesh$Light" "second" "LOpticmesh$Way;", Cond.methodLink RX1 40 yX1_isGone, Cond.instanceMethod yX1_isGone]
def wsL_request_r3 : List Cond := [Cond.selects RX1 yX1_isGone yX1_isGone, Cond.code yX1_isGone cX1_isGone 1 (some .boolean), Cond.fieldLink RX1 29 "Opticmesh$Light" "units" "I", Cond.methodLink RX5 277 yX1_joins, Cond.instanceMethod yX1_joins, Cond.selects RX1 yX1_joins yX1_joins, Cond.code yX1_joins cX1_joins 3 (some .boolean), Cond.fieldLink RX1 23 "Opticmesh$Light" "from" "I", Cond.fieldLink RX1 26 "Opticmesh$Light" "to" "I", Cond.methodLink RX5 147 yX5_findWays, Cond.instanceMethod yX5_findWays, Cond.selects RX5 yX5_findWays yX5_findWays, Cond.code yX5_findWays cX5_findWays 4 none, Cond.fieldLink RX5 21 "Opticmesh" "finder" "LOpticmesh$WayFinder;", Cond.methodLink RX5 212 yX5_openChannels, Cond.instanceMethod yX5_openChannels, Cond.selects RX5 yX5_openChannels yX5_openChannels, Cond.code yX5_openChannels cX5_openChannels 5 none, Cond.fieldLink RX5 107 "Opticmesh$Network" "wavelengthCount" "I", Cond.fieldLink RX5 295 "Opticmesh$WayFinder" "open" "[I", Cond.methodLink RX5 264 yX2_hasFibre, Cond.instanceMethod yX2_hasFibre, Cond.selects RX2 yX2_hasFibre yX2_hasFibre, Cond.code yX2_hasFibre cX2_hasFibre 2 (some .boolean)]
def wsL_request_r4 : List Cond := [Cond.fieldLink RX2 28 "Opticmesh$Network" "fibreCount" "I", Cond.methodLink RX5 93 yX2_isCut, Cond.instanceMethod yX2_isCut, Cond.selects RX2 yX2_isCut yX2_isCut, Cond.code yX2_isCut cX2_isCut 2 (some .boolean), Cond.fieldLink RX2 34 "Opticmesh$Network" "cutFibres" "I", Cond.methodLink RX5 119 yX5_wavelengthsUsed, Cond.instanceMethod yX5_wavelengthsUsed, Cond.selects RX5 yX5_wavelengthsUsed yX5_wavelengthsUsed, Cond.code yX5_wavelengthsUsed cX5_wavelengthsUsed 5 (some .int), Cond.methodLink RX5 112 yX1_wavelengthsOn, Cond.instanceMethod yX1_wavelengthsOn, Cond.selects RX1 yX1_wavelengthsOn yX1_wavelengthsOn, Cond.code yX1_wavelengthsOn cX1_wavelengthsOn 3 (some .int), Cond.methodLink RX1 47 yX3_wavelengthsOn, Cond.instanceMethod yX3_wavelengthsOn, Cond.selects RX3 yX3_wavelengthsOn yX3_wavelengthsOn, Cond.initialized RX3, Cond.code yX3_wavelengthsOn cX3_wavelengthsOn 5 (some .int), Cond.fieldLink RX3 7 "Opticmesh$Way" "count" "I", Cond.methodLink RX3 30 yX3_uses, Cond.instanceMethod yX3_uses, Cond.selects RX3 yX3_uses yX3_uses, Cond.code yX3_uses cX3_uses 2 (some .boolean)]
def wsL_request_r5 : List Cond := [Cond.fieldLink RX3 19 "Opticmesh$Way" "fibres" "I", Cond.methodLink RX3 26 yX3_channelAt, Cond.instanceMethod yX3_channelAt, Cond.selects RX3 yX3_channelAt yX3_channelAt, Cond.code yX3_channelAt cX3_channelAt 2 (some .int), Cond.fieldLink RX3 22 "Opticmesh$Way" "channelBytes" "J", Cond.methodLink RX5 222 yX4_findFirst, Cond.instanceMethod yX4_findFirst, Cond.selects RX4 yX4_findFirst yX4_findFirst, Cond.initialized RX4, Cond.code yX4_findFirst cX4_findFirst 3 none, Cond.fieldLink RX4 36 "Opticmesh$WayFinder" "network" "LOpticmesh$Network;", Cond.fieldLink RX4 41 "Opticmesh$Network" "converters" "I", Cond.methodLink RX4 47 yX4_aim, Cond.instanceMethod yX4_aim, Cond.selects RX4 yX4_aim yX4_aim, Cond.code yX4_aim cX4_aim 4 none, Cond.fieldLink RX4 86 "Opticmesh$WayFinder" "target" "I", Cond.fieldLink RX4 89 "Opticmesh$WayFinder" "allowed" "I", Cond.fieldLink RX4 92 "Opticmesh$WayFinder" "converters" "I", Cond.fieldLink RX4 65 "Opticmesh$WayFinder" "keptCount" "I", Cond.methodLink RX4 51 yX4_walk, Cond.instanceMethod yX4_walk, Cond.selects RX4 yX4_walk yX4_walk]
def wsL_request_r6 : List Cond := [Cond.code yX4_walk cX4_walk 11 none, Cond.fieldLink RX4 9 "Opticmesh$WayFinder" "open" "[I", Cond.fieldLink RX4 15 "Opticmesh$WayFinder" "trail" "[I", Cond.fieldLink RX4 18 "Opticmesh$WayFinder" "openOnTrail" "[I", Cond.fieldLink RX4 21 "Opticmesh$WayFinder" "convertsBefore" "[Z", Cond.methodLink RX4 93 yX4_keep, Cond.instanceMethod yX4_keep, Cond.selects RX4 yX4_keep yX4_keep, Cond.code yX4_keep cX4_keep 5 none, Cond.fieldLink RX4 27 "Opticmesh$WayFinder" "within" "[[I", Cond.fieldLink RX4 32 "Opticmesh$WayFinder" "kept" "[LOpticmesh$Way;", Cond.methodLink RX4 105 yX4_countConversionsBackwards, Cond.instanceMethod yX4_countConversionsBackwards, Cond.selects RX4 yX4_countConversionsBackwards yX4_countConversionsBackwards, Cond.code yX4_countConversionsBackwards cX4_countConversionsBackwards 4 none, Cond.methodLink RX4 122 yX4_leadingOn, Cond.instanceMethod yX4_leadingOn, Cond.selects RX4 yX4_leadingOn yX4_leadingOn, Cond.code yX4_leadingOn cX4_leadingOn 4 (some .int), Cond.methodLink RX4 109 yX3_start, Cond.instanceMethod yX3_start, Cond.selects RX3 yX3_start yX3_start, Cond.code yX3_start cX3_start 3 none, Cond.fieldLink RX3 13 "Opticmesh$Way" "length" "I"]
def wsL_request_r7 : List Cond := [Cond.fieldLink RX3 16 "Opticmesh$Way" "conversions" "I", Cond.methodLink RX4 112 yX4_takeLowestWavelengths, Cond.instanceMethod yX4_takeLowestWavelengths, Cond.selects RX4 yX4_takeLowestWavelengths yX4_takeLowestWavelengths, Cond.code yX4_takeLowestWavelengths cX4_takeLowestWavelengths 10 none, Cond.static yX5_lowestIn, Cond.code yX5_lowestIn cX5_lowestIn 2 (some .int), Cond.methodLink RX4 119 yX3_append, Cond.instanceMethod yX3_append, Cond.selects RX3 yX3_append yX3_append, Cond.code yX3_append cX3_append 3 none, Cond.methodLink RX4 97 yX2_acrossFrom, Cond.instanceMethod yX2_acrossFrom, Cond.selects RX2 yX2_acrossFrom yX2_acrossFrom, Cond.code yX2_acrossFrom cX2_acrossFrom 3 (some .int), Cond.fieldLink RX2 18 "Opticmesh$Network" "ones" "[I", Cond.fieldLink RX2 22 "Opticmesh$Network" "others" "[I", Cond.methodLink RX2 37 yX2_hasFibre, Cond.methodLink RX4 101 yX2_lengthOf, Cond.instanceMethod yX2_lengthOf, Cond.selects RX2 yX2_lengthOf yX2_lengthOf, Cond.code yX2_lengthOf cX2_lengthOf 2 (some .int), Cond.fieldLink RX2 25 "Opticmesh$Network" "lengths" "[I", Cond.methodLink RX4 55 yX4_pickFirst]
def wsL_request_r8 : List Cond := [Cond.instanceMethod yX4_pickFirst, Cond.selects RX4 yX4_pickFirst yX4_pickFirst, Cond.code yX4_pickFirst cX4_pickFirst 2 none, Cond.fieldLink RX4 58 "Opticmesh$WayFinder" "first" "LOpticmesh$Way;", Cond.fieldLink RX4 62 "Opticmesh$WayFinder" "second" "LOpticmesh$Way;", Cond.methodLink RX4 75 yX3_isAheadOf, Cond.instanceMethod yX3_isAheadOf, Cond.selects RX3 yX3_isAheadOf yX3_isAheadOf, Cond.code yX3_isAheadOf cX3_isAheadOf 2 (some .boolean), Cond.methodLink RX5 289 yX4_findOnLowestWavelength, Cond.instanceMethod yX4_findOnLowestWavelength, Cond.selects RX4 yX4_findOnLowestWavelength yX4_findOnLowestWavelength, Cond.code yX4_findOnLowestWavelength cX4_findOnLowestWavelength 4 none, Cond.methodLink RX5 292 yX4_findPair, Cond.instanceMethod yX4_findPair, Cond.selects RX4 yX4_findPair yX4_findPair, Cond.code yX4_findPair cX4_findPair 5 none, Cond.fieldLink RX4 68 "Opticmesh$Way" "fibres" "I", Cond.methodLink RX4 71 yX4_offerPair, Cond.instanceMethod yX4_offerPair, Cond.selects RX4 yX4_offerPair yX4_offerPair, Cond.code yX4_offerPair cX4_offerPair 6 none, Cond.methodLink RX4 79 yX4_isPairAhead, Cond.static yX4_isPairAhead]
def wsL_request_r9 : List Cond := [Cond.code yX4_isPairAhead cX4_isPairAhead 5 (some .boolean), Cond.fieldLink RX4 83 "Opticmesh$Way" "length" "I", Cond.methodLink RX5 151 yX5_lightOnFoundWays, Cond.instanceMethod yX5_lightOnFoundWays, Cond.selects RX5 yX5_lightOnFoundWays yX5_lightOnFoundWays, Cond.code yX5_lightOnFoundWays cX5_lightOnFoundWays 5 (some (.object "Opticmesh$Light")), Cond.fieldLink RX5 160 "Opticmesh$WayFinder" "first" "LOpticmesh$Way;", Cond.fieldLink RX5 166 "Opticmesh$WayFinder" "second" "LOpticmesh$Way;", Cond.methodLink RX5 280 yX5_livingLights, Cond.instanceMethod yX5_livingLights, Cond.selects RX5 yX5_livingLights yX5_livingLights, Cond.code yX5_livingLights cX5_livingLights 3 (some .int), Cond.methodLink RX5 184 yX1_isGone, Cond.methodLink RX5 285 yX1_start, Cond.instanceMethod yX1_start, Cond.selects RX1 yX1_start yX1_start, Cond.code yX1_start cX1_start 5 none, Cond.methodLink RX1 32 yX3_become, Cond.instanceMethod yX3_become, Cond.selects RX3 yX3_become yX3_become, Cond.code yX3_become cX3_become 2 none]
def wsL_request : List Cond := .codeWith yL_request cL_request 7 (some .int) [(0, 14, 17, 13), (0, 14, 21, 19)] :: ((wsL_request_r1 ++ (wsL_request_r2 ++ (wsL_request_r3 ++ (wsL_request_r4 ++ (wsL_request_r5 ++ (wsL_request_r6 ++ (wsL_request_r7 ++ (wsL_request_r8 ++ wsL_request_r9)))))))) ++ wsX50 ++ wsX10 ++ wsX20 ++ wsX30 ++ wsX40 ++ (vx_atS RX5 52 "java/lang/IllegalArgumentException" ["java/lang/RuntimeException", "java/lang/Exception"]).filter goodWord ++ (vx_atS RX5 80 "java/lang/IllegalStateException" ["java/lang/RuntimeException", "java/lang/Exception"]).filter goodWord)
def wsL_newLength_r1 : List Cond := [Cond.classLink RL 13 "java/lang/IllegalArgumentException", Cond.classLink RL 19 "java/lang/IllegalStateException", Cond.methodLink RL 46 yX5_newLength, Cond.instanceMethod yX5_newLength, Cond.selects RX5 yX5_newLength yX5_newLength, Cond.initialized RX5, Cond.code yX5_newLength cX5_newLength 6 (some .int), Cond.classLink RX5 48 "java/lang/IllegalArgumentException", Cond.initialized "java/lang/IllegalArgumentException", Cond.classLink RX5 76 "java/lang/IllegalStateException", Cond.initialized "java/lang/IllegalStateException", Cond.fieldLink RX5 21 "Opticmesh" "finder" "LOpticmesh$WayFinder;", Cond.fieldLink RX5 160 "Opticmesh$WayFinder" "first" "LOpticmesh$Way;", Cond.fieldLink RX5 166 "Opticmesh$WayFinder" "second" "LOpticmesh$Way;", Cond.fieldLink RX5 169 "Opticmesh$Way" "length" "I", Cond.methodLink RX5 66 yX5_areTwoNodes, Cond.instanceMethod yX5_areTwoNodes, Cond.selects RX5 yX5_areTwoNodes yX5_areTwoNodes, Cond.code yX5_areTwoNodes cX5_areTwoNodes 3 (some .boolean), Cond.fieldLink RX5 12 "Opticmesh" "network" "LOpticmesh$Network;", Cond.methodLink RX5 81 yX2_hasNode, Cond.instanceMethod yX2_hasNode, Cond.selects RX2 yX2_hasNode yX2_hasNode, Cond.initialized RX2]
def wsL_newLength_r2 : List Cond := [Cond.code yX2_hasNode cX2_hasNode 2 (some .boolean), Cond.fieldLink RX2 9 "Opticmesh$Network" "nodeCount" "I", Cond.methodLink RX5 136 yX5_isRule, Cond.static yX5_isRule, Cond.code yX5_isRule cX5_isRule 1 (some .boolean), Cond.methodLink RX5 147 yX5_findWays, Cond.instanceMethod yX5_findWays, Cond.selects RX5 yX5_findWays yX5_findWays, Cond.code yX5_findWays cX5_findWays 4 none, Cond.methodLink RX5 212 yX5_openChannels, Cond.instanceMethod yX5_openChannels, Cond.selects RX5 yX5_openChannels yX5_openChannels, Cond.code yX5_openChannels cX5_openChannels 5 none, Cond.fieldLink RX5 107 "Opticmesh$Network" "wavelengthCount" "I", Cond.fieldLink RX5 295 "Opticmesh$WayFinder" "open" "[I", Cond.methodLink RX5 264 yX2_hasFibre, Cond.instanceMethod yX2_hasFibre, Cond.selects RX2 yX2_hasFibre yX2_hasFibre, Cond.code yX2_hasFibre cX2_hasFibre 2 (some .boolean), Cond.fieldLink RX2 28 "Opticmesh$Network" "fibreCount" "I", Cond.methodLink RX5 93 yX2_isCut, Cond.instanceMethod yX2_isCut, Cond.selects RX2 yX2_isCut yX2_isCut, Cond.code yX2_isCut cX2_isCut 2 (some .boolean)]
def wsL_newLength_r3 : List Cond := [Cond.fieldLink RX2 34 "Opticmesh$Network" "cutFibres" "I", Cond.methodLink RX5 119 yX5_wavelengthsUsed, Cond.instanceMethod yX5_wavelengthsUsed, Cond.selects RX5 yX5_wavelengthsUsed yX5_wavelengthsUsed, Cond.code yX5_wavelengthsUsed cX5_wavelengthsUsed 5 (some .int), Cond.fieldLink RX5 59 "Opticmesh" "lightCount" "I", Cond.fieldLink RX5 34 "Opticmesh" "lightList" "[LOpticmesh$Light;", Cond.methodLink RX5 112 yX1_wavelengthsOn, Cond.instanceMethod yX1_wavelengthsOn, Cond.selects RX1 yX1_wavelengthsOn yX1_wavelengthsOn, Cond.initialized RX1, Cond.code yX1_wavelengthsOn cX1_wavelengthsOn 3 (some .int), Cond.fieldLink RX1 10 "Opticmesh$Light" "first" "LOpticmesh$Way;", Cond.fieldLink RX1 36 "Opticmesh$Light" "isProtected" "Z", Cond.fieldLink RX1 16 "Opticmesh$Light" "second" "LOpticmesh$Way;", Cond.methodLink RX1 40 yX1_isGone, Cond.instanceMethod yX1_isGone, Cond.selects RX1 yX1_isGone yX1_isGone, Cond.code yX1_isGone cX1_isGone 1 (some .boolean), Cond.fieldLink RX1 29 "Opticmesh$Light" "units" "I", Cond.methodLink RX1 47 yX3_wavelengthsOn, Cond.instanceMethod yX3_wavelengthsOn, Cond.selects RX3 yX3_wavelengthsOn yX3_wavelengthsOn, Cond.initialized RX3]
def wsL_newLength_r4 : List Cond := [Cond.code yX3_wavelengthsOn cX3_wavelengthsOn 5 (some .int), Cond.fieldLink RX3 7 "Opticmesh$Way" "count" "I", Cond.methodLink RX3 30 yX3_uses, Cond.instanceMethod yX3_uses, Cond.selects RX3 yX3_uses yX3_uses, Cond.code yX3_uses cX3_uses 2 (some .boolean), Cond.fieldLink RX3 19 "Opticmesh$Way" "fibres" "I", Cond.methodLink RX3 26 yX3_channelAt, Cond.instanceMethod yX3_channelAt, Cond.selects RX3 yX3_channelAt yX3_channelAt, Cond.code yX3_channelAt cX3_channelAt 2 (some .int), Cond.fieldLink RX3 22 "Opticmesh$Way" "channelBytes" "J", Cond.methodLink RX5 222 yX4_findFirst, Cond.instanceMethod yX4_findFirst, Cond.selects RX4 yX4_findFirst yX4_findFirst, Cond.initialized RX4, Cond.code yX4_findFirst cX4_findFirst 3 none, Cond.fieldLink RX4 36 "Opticmesh$WayFinder" "network" "LOpticmesh$Network;", Cond.fieldLink RX4 41 "Opticmesh$Network" "converters" "I", Cond.methodLink RX4 47 yX4_aim, Cond.instanceMethod yX4_aim, Cond.selects RX4 yX4_aim yX4_aim, Cond.code yX4_aim cX4_aim 4 none, Cond.fieldLink RX4 86 "Opticmesh$WayFinder" "target" "I"]
def wsL_newLength_r5 : List Cond := [Cond.fieldLink RX4 89 "Opticmesh$WayFinder" "allowed" "I", Cond.fieldLink RX4 92 "Opticmesh$WayFinder" "converters" "I", Cond.fieldLink RX4 65 "Opticmesh$WayFinder" "keptCount" "I", Cond.methodLink RX4 51 yX4_walk, Cond.instanceMethod yX4_walk, Cond.selects RX4 yX4_walk yX4_walk, Cond.code yX4_walk cX4_walk 11 none, Cond.fieldLink RX4 9 "Opticmesh$WayFinder" "open" "[I", Cond.fieldLink RX4 15 "Opticmesh$WayFinder" "trail" "[I", Cond.fieldLink RX4 18 "Opticmesh$WayFinder" "openOnTrail" "[I", Cond.fieldLink RX4 21 "Opticmesh$WayFinder" "convertsBefore" "[Z", Cond.methodLink RX4 93 yX4_keep, Cond.instanceMethod yX4_keep, Cond.selects RX4 yX4_keep yX4_keep, Cond.code yX4_keep cX4_keep 5 none, Cond.fieldLink RX4 27 "Opticmesh$WayFinder" "within" "[[I", Cond.fieldLink RX4 32 "Opticmesh$WayFinder" "kept" "[LOpticmesh$Way;", Cond.methodLink RX4 105 yX4_countConversionsBackwards, Cond.instanceMethod yX4_countConversionsBackwards, Cond.selects RX4 yX4_countConversionsBackwards yX4_countConversionsBackwards, Cond.code yX4_countConversionsBackwards cX4_countConversionsBackwards 4 none, Cond.methodLink RX4 122 yX4_leadingOn, Cond.instanceMethod yX4_leadingOn, Cond.selects RX4 yX4_leadingOn yX4_leadingOn]
def wsL_newLength_r6 : List Cond := [Cond.code yX4_leadingOn cX4_leadingOn 4 (some .int), Cond.methodLink RX4 109 yX3_start, Cond.instanceMethod yX3_start, Cond.selects RX3 yX3_start yX3_start, Cond.code yX3_start cX3_start 3 none, Cond.fieldLink RX3 13 "Opticmesh$Way" "length" "I", Cond.fieldLink RX3 16 "Opticmesh$Way" "conversions" "I", Cond.methodLink RX4 112 yX4_takeLowestWavelengths, Cond.instanceMethod yX4_takeLowestWavelengths, Cond.selects RX4 yX4_takeLowestWavelengths yX4_takeLowestWavelengths, Cond.code yX4_takeLowestWavelengths cX4_takeLowestWavelengths 10 none, Cond.static yX5_lowestIn, Cond.code yX5_lowestIn cX5_lowestIn 2 (some .int), Cond.methodLink RX4 119 yX3_append, Cond.instanceMethod yX3_append, Cond.selects RX3 yX3_append yX3_append, Cond.code yX3_append cX3_append 3 none, Cond.methodLink RX4 97 yX2_acrossFrom, Cond.instanceMethod yX2_acrossFrom, Cond.selects RX2 yX2_acrossFrom yX2_acrossFrom, Cond.code yX2_acrossFrom cX2_acrossFrom 3 (some .int), Cond.fieldLink RX2 18 "Opticmesh$Network" "ones" "[I", Cond.fieldLink RX2 22 "Opticmesh$Network" "others" "[I", Cond.methodLink RX2 37 yX2_hasFibre]
def wsL_newLength_r7 : List Cond := [Cond.methodLink RX4 101 yX2_lengthOf, Cond.instanceMethod yX2_lengthOf, Cond.selects RX2 yX2_lengthOf yX2_lengthOf, Cond.code yX2_lengthOf cX2_lengthOf 2 (some .int), Cond.fieldLink RX2 25 "Opticmesh$Network" "lengths" "[I", Cond.methodLink RX4 55 yX4_pickFirst, Cond.instanceMethod yX4_pickFirst, Cond.selects RX4 yX4_pickFirst yX4_pickFirst, Cond.code yX4_pickFirst cX4_pickFirst 2 none, Cond.fieldLink RX4 58 "Opticmesh$WayFinder" "first" "LOpticmesh$Way;", Cond.fieldLink RX4 62 "Opticmesh$WayFinder" "second" "LOpticmesh$Way;", Cond.methodLink RX4 75 yX3_isAheadOf, Cond.instanceMethod yX3_isAheadOf, Cond.selects RX3 yX3_isAheadOf yX3_isAheadOf, Cond.code yX3_isAheadOf cX3_isAheadOf 2 (some .boolean), Cond.methodLink RX5 289 yX4_findOnLowestWavelength, Cond.instanceMethod yX4_findOnLowestWavelength, Cond.selects RX4 yX4_findOnLowestWavelength yX4_findOnLowestWavelength, Cond.code yX4_findOnLowestWavelength cX4_findOnLowestWavelength 4 none, Cond.methodLink RX5 292 yX4_findPair, Cond.instanceMethod yX4_findPair, Cond.selects RX4 yX4_findPair yX4_findPair, Cond.code yX4_findPair cX4_findPair 5 none, Cond.fieldLink RX4 68 "Opticmesh$Way" "fibres" "I"]
def wsL_newLength_r8 : List Cond := [Cond.methodLink RX4 71 yX4_offerPair, Cond.instanceMethod yX4_offerPair, Cond.selects RX4 yX4_offerPair yX4_offerPair, Cond.code yX4_offerPair cX4_offerPair 6 none, Cond.methodLink RX4 79 yX4_isPairAhead, Cond.static yX4_isPairAhead, Cond.code yX4_isPairAhead cX4_isPairAhead 5 (some .boolean), Cond.fieldLink RX4 83 "Opticmesh$Way" "length" "I"]
def wsL_newLength : List Cond := .codeWith yL_newLength cL_newLength 6 (some .int) [(0, 12, 15, 13), (0, 12, 19, 19)] :: ((wsL_newLength_r1 ++ (wsL_newLength_r2 ++ (wsL_newLength_r3 ++ (wsL_newLength_r4 ++ (wsL_newLength_r5 ++ (wsL_newLength_r6 ++ (wsL_newLength_r7 ++ wsL_newLength_r8))))))) ++ wsX50 ++ wsX40 ++ wsX30 ++ wsX20 ++ wsX10 ++ (vx_atS RX5 52 "java/lang/IllegalArgumentException" ["java/lang/RuntimeException", "java/lang/Exception"]).filter goodWord ++ (vx_atS RX5 80 "java/lang/IllegalStateException" ["java/lang/RuntimeException", "java/lang/Exception"]).filter goodWord)
def wsL_release : List Cond := .codeWith yL_release cL_release 4 (some .int) [(0, 9, 12, 29), (0, 9, 15, 19)] :: ([.classLink RL 29 "java/lang/IndexOutOfBoundsException", .classLink RL 19 "java/lang/IllegalStateException", .methodLink RL 49 yX5_release, .instanceMethod yX5_release, .selects RX5 yX5_release yX5_release, .initialized RX5, .code yX5_release cX5_release 3 (some .int), .fieldLink RX5 41 "Opticmesh" "carriers" "[LOpticmesh$Light;", .fieldLink RX5 155 "Opticmesh$Light" "units" "I", .fieldLink RX5 44 "Opticmesh" "demands" "[I", .methodLink RX5 174 yX5_carrierOf, .instanceMethod yX5_carrierOf, .selects RX5 yX5_carrierOf yX5_carrierOf, .code yX5_carrierOf cX5_carrierOf 3 (some (.object "Opticmesh$Light")), .classLink RX5 198 "java/lang/IndexOutOfBoundsException", .initialized "java/lang/IndexOutOfBoundsException", .classLink RX5 76 "java/lang/IllegalStateException", .initialized "java/lang/IllegalStateException", .fieldLink RX5 63 "Opticmesh" "requestCount" "I"] ++ wsX50 ++ wsX10 ++ (vx_atS RX5 202 "java/lang/IndexOutOfBoundsException" ["java/lang/RuntimeException", "java/lang/Exception"]).filter goodWord ++ (vx_atS RX5 80 "java/lang/IllegalStateException" ["java/lang/RuntimeException", "java/lang/Exception"]).filter goodWord)
def wsL_lightOf : List Cond := .codeWith yL_lightOf cL_lightOf 4 (some .int) [(0, 9, 12, 29), (0, 9, 15, 19)] :: ([.classLink RL 29 "java/lang/IndexOutOfBoundsException", .classLink RL 19 "java/lang/IllegalStateException", .methodLink RL 52 yX5_lightOf, .instanceMethod yX5_lightOf, .selects RX5 yX5_lightOf yX5_lightOf, .initialized RX5, .code yX5_lightOf cX5_lightOf 2 (some .int), .fieldLink RX5 178 "Opticmesh$Light" "number" "I", .methodLink RX5 174 yX5_carrierOf, .instanceMethod yX5_carrierOf, .selects RX5 yX5_carrierOf yX5_carrierOf, .code yX5_carrierOf cX5_carrierOf 3 (some (.object "Opticmesh$Light")), .classLink RX5 198 "java/lang/IndexOutOfBoundsException", .initialized "java/lang/IndexOutOfBoundsException", .classLink RX5 76 "java/lang/IllegalStateException", .initialized "java/lang/IllegalStateException", .fieldLink RX5 63 "Opticmesh" "requestCount" "I", .fieldLink RX5 41 "Opticmesh" "carriers" "[LOpticmesh$Light;"] ++ wsX10 ++ wsX50 ++ (vx_atS RX5 202 "java/lang/IndexOutOfBoundsException" ["java/lang/RuntimeException", "java/lang/Exception"]).filter goodWord ++ (vx_atS RX5 80 "java/lang/IllegalStateException" ["java/lang/RuntimeException", "java/lang/Exception"]).filter goodWord)
def wsL_state_r1 : List Cond := [Cond.classLink RL 29 "java/lang/IndexOutOfBoundsException", Cond.methodLink RL 55 yX5_state, Cond.instanceMethod yX5_state, Cond.selects RX5 yX5_state yX5_state, Cond.initialized RX5, Cond.code yX5_state cX5_state 3 (some .int), Cond.fieldLink RX5 12 "Opticmesh" "network" "LOpticmesh$Network;", Cond.fieldLink RX5 102 "Opticmesh$Network" "cutFibres" "I", Cond.methodLink RX5 181 yX5_existingLight, Cond.instanceMethod yX5_existingLight, Cond.selects RX5 yX5_existingLight yX5_existingLight, Cond.code yX5_existingLight cX5_existingLight 2 (some (.object "Opticmesh$Light")), Cond.classLink RX5 198 "java/lang/IndexOutOfBoundsException", Cond.initialized "java/lang/IndexOutOfBoundsException", Cond.fieldLink RX5 59 "Opticmesh" "lightCount" "I", Cond.fieldLink RX5 34 "Opticmesh" "lightList" "[LOpticmesh$Light;", Cond.methodLink RX5 184 yX1_isGone, Cond.instanceMethod yX1_isGone, Cond.selects RX1 yX1_isGone yX1_isGone, Cond.initialized RX1, Cond.code yX1_isGone cX1_isGone 1 (some .boolean), Cond.fieldLink RX1 29 "Opticmesh$Light" "units" "I", Cond.methodLink RX5 188 yX1_isUp, Cond.instanceMethod yX1_isUp]
def wsL_state_r2 : List Cond := [Cond.selects RX1 yX1_isUp yX1_isUp, Cond.code yX1_isUp cX1_isUp 2 (some .boolean), Cond.fieldLink RX1 10 "Opticmesh$Light" "first" "LOpticmesh$Way;", Cond.fieldLink RX1 44 "Opticmesh$Way" "fibres" "I", Cond.fieldLink RX1 36 "Opticmesh$Light" "isProtected" "Z", Cond.fieldLink RX1 16 "Opticmesh$Light" "second" "LOpticmesh$Way;", Cond.methodLink RX1 40 yX1_isGone]
def wsL_state : List Cond := .codeWith yL_state cL_state 4 (some .int) [(0, 9, 12, 29)] :: ((wsL_state_r1 ++ wsL_state_r2) ++ wsX50 ++ wsX20 ++ wsX10 ++ wsX30 ++ (vx_atS RX5 202 "java/lang/IndexOutOfBoundsException" ["java/lang/RuntimeException", "java/lang/Exception"]).filter goodWord)
def wsL_units : List Cond := .codeWith yL_units cL_units 4 (some .int) [(0, 9, 12, 29)] :: ([.classLink RL 29 "java/lang/IndexOutOfBoundsException", .methodLink RL 58 yX5_units, .instanceMethod yX5_units, .selects RX5 yX5_units yX5_units, .initialized RX5, .code yX5_units cX5_units 2 (some .int), .fieldLink RX5 155 "Opticmesh$Light" "units" "I", .methodLink RX5 181 yX5_existingLight, .instanceMethod yX5_existingLight, .selects RX5 yX5_existingLight yX5_existingLight, .code yX5_existingLight cX5_existingLight 2 (some (.object "Opticmesh$Light")), .classLink RX5 198 "java/lang/IndexOutOfBoundsException", .initialized "java/lang/IndexOutOfBoundsException", .fieldLink RX5 59 "Opticmesh" "lightCount" "I", .fieldLink RX5 34 "Opticmesh" "lightList" "[LOpticmesh$Light;"] ++ wsX10 ++ wsX50 ++ (vx_atS RX5 202 "java/lang/IndexOutOfBoundsException" ["java/lang/RuntimeException", "java/lang/Exception"]).filter goodWord)
def wsL_channels_r1 : List Cond := [Cond.classLink RL 29 "java/lang/IndexOutOfBoundsException", Cond.methodLink RL 61 yX5_channels, Cond.instanceMethod yX5_channels, Cond.selects RX5 yX5_channels yX5_channels, Cond.initialized RX5, Cond.code yX5_channels cX5_channels 3 (some .int), Cond.fieldLink RX5 195 "Opticmesh$Way" "count" "I", Cond.methodLink RX5 191 yX5_wayOf, Cond.instanceMethod yX5_wayOf, Cond.selects RX5 yX5_wayOf yX5_wayOf, Cond.code yX5_wayOf cX5_wayOf 4 (some (.object "Opticmesh$Way")), Cond.classLink RX5 198 "java/lang/IndexOutOfBoundsException", Cond.initialized "java/lang/IndexOutOfBoundsException", Cond.methodLink RX5 181 yX5_existingLight, Cond.instanceMethod yX5_existingLight, Cond.selects RX5 yX5_existingLight yX5_existingLight, Cond.code yX5_existingLight cX5_existingLight 2 (some (.object "Opticmesh$Light")), Cond.fieldLink RX5 59 "Opticmesh" "lightCount" "I", Cond.fieldLink RX5 34 "Opticmesh" "lightList" "[LOpticmesh$Light;", Cond.methodLink RX5 242 yX1_wayAt, Cond.instanceMethod yX1_wayAt, Cond.selects RX1 yX1_wayAt yX1_wayAt, Cond.initialized RX1, Cond.code yX1_wayAt cX1_wayAt 2 (some (.object "Opticmesh$Way"))]
def wsL_channels_r2 : List Cond := [Cond.fieldLink RX1 10 "Opticmesh$Light" "first" "LOpticmesh$Way;", Cond.fieldLink RX1 36 "Opticmesh$Light" "isProtected" "Z", Cond.fieldLink RX1 16 "Opticmesh$Light" "second" "LOpticmesh$Way;", Cond.methodLink RX1 40 yX1_isGone, Cond.instanceMethod yX1_isGone, Cond.selects RX1 yX1_isGone yX1_isGone, Cond.code yX1_isGone cX1_isGone 1 (some .boolean), Cond.fieldLink RX1 29 "Opticmesh$Light" "units" "I"]
def wsL_channels : List Cond := .codeWith yL_channels cL_channels 5 (some .int) [(0, 10, 13, 29)] :: ((wsL_channels_r1 ++ wsL_channels_r2) ++ wsX30 ++ wsX50 ++ wsX10 ++ (vx_atS RX5 202 "java/lang/IndexOutOfBoundsException" ["java/lang/RuntimeException", "java/lang/Exception"]).filter goodWord)
def wsL_channel_r1 : List Cond := [Cond.classLink RL 29 "java/lang/IndexOutOfBoundsException", Cond.methodLink RL 64 yX5_channel, Cond.instanceMethod yX5_channel, Cond.selects RX5 yX5_channel yX5_channel, Cond.initialized RX5, Cond.code yX5_channel cX5_channel 5 (some .int), Cond.classLink RX5 198 "java/lang/IndexOutOfBoundsException", Cond.initialized "java/lang/IndexOutOfBoundsException", Cond.fieldLink RX5 195 "Opticmesh$Way" "count" "I", Cond.methodLink RX5 191 yX5_wayOf, Cond.instanceMethod yX5_wayOf, Cond.selects RX5 yX5_wayOf yX5_wayOf, Cond.code yX5_wayOf cX5_wayOf 4 (some (.object "Opticmesh$Way")), Cond.methodLink RX5 181 yX5_existingLight, Cond.instanceMethod yX5_existingLight, Cond.selects RX5 yX5_existingLight yX5_existingLight, Cond.code yX5_existingLight cX5_existingLight 2 (some (.object "Opticmesh$Light")), Cond.fieldLink RX5 59 "Opticmesh" "lightCount" "I", Cond.fieldLink RX5 34 "Opticmesh" "lightList" "[LOpticmesh$Light;", Cond.methodLink RX5 242 yX1_wayAt, Cond.instanceMethod yX1_wayAt, Cond.selects RX1 yX1_wayAt yX1_wayAt, Cond.initialized RX1, Cond.code yX1_wayAt cX1_wayAt 2 (some (.object "Opticmesh$Way"))]
def wsL_channel_r2 : List Cond := [Cond.fieldLink RX1 10 "Opticmesh$Light" "first" "LOpticmesh$Way;", Cond.fieldLink RX1 36 "Opticmesh$Light" "isProtected" "Z", Cond.fieldLink RX1 16 "Opticmesh$Light" "second" "LOpticmesh$Way;", Cond.methodLink RX1 40 yX1_isGone, Cond.instanceMethod yX1_isGone, Cond.selects RX1 yX1_isGone yX1_isGone, Cond.code yX1_isGone cX1_isGone 1 (some .boolean), Cond.fieldLink RX1 29 "Opticmesh$Light" "units" "I", Cond.methodLink RX5 203 yX3_channelAt, Cond.instanceMethod yX3_channelAt, Cond.selects RX3 yX3_channelAt yX3_channelAt, Cond.initialized RX3, Cond.code yX3_channelAt cX3_channelAt 2 (some .int), Cond.fieldLink RX3 22 "Opticmesh$Way" "channelBytes" "J", Cond.fieldLink RX3 7 "Opticmesh$Way" "count" "I"]
def wsL_channel : List Cond := .codeWith yL_channel cL_channel 6 (some .int) [(0, 12, 15, 29)] :: ((wsL_channel_r1 ++ wsL_channel_r2) ++ wsX30 ++ wsX50 ++ wsX10 ++ (vx_atS RX5 202 "java/lang/IndexOutOfBoundsException" ["java/lang/RuntimeException", "java/lang/Exception"]).filter goodWord)
def wsL_reroute_r1 : List Cond := [Cond.classLink RL 29 "java/lang/IndexOutOfBoundsException", Cond.classLink RL 19 "java/lang/IllegalStateException", Cond.methodLink RL 67 yX5_reroute, Cond.instanceMethod yX5_reroute, Cond.selects RX5 yX5_reroute yX5_reroute, Cond.initialized RX5, Cond.code yX5_reroute cX5_reroute 4 (some .int), Cond.classLink RX5 76 "java/lang/IllegalStateException", Cond.initialized "java/lang/IllegalStateException", Cond.fieldLink RX5 206 "Opticmesh$Light" "isProtected" "Z", Cond.fieldLink RX5 21 "Opticmesh" "finder" "LOpticmesh$WayFinder;", Cond.fieldLink RX5 216 "Opticmesh$Light" "from" "I", Cond.fieldLink RX5 219 "Opticmesh$Light" "to" "I", Cond.fieldLink RX5 160 "Opticmesh$WayFinder" "first" "LOpticmesh$Way;", Cond.fieldLink RX5 227 "Opticmesh$Light" "first" "LOpticmesh$Way;", Cond.fieldLink RX5 169 "Opticmesh$Way" "length" "I", Cond.methodLink RX5 181 yX5_existingLight, Cond.instanceMethod yX5_existingLight, Cond.selects RX5 yX5_existingLight yX5_existingLight, Cond.code yX5_existingLight cX5_existingLight 2 (some (.object "Opticmesh$Light")), Cond.classLink RX5 198 "java/lang/IndexOutOfBoundsException", Cond.initialized "java/lang/IndexOutOfBoundsException", Cond.fieldLink RX5 59 "Opticmesh" "lightCount" "I", Cond.fieldLink RX5 34 "Opticmesh" "lightList" "[LOpticmesh$Light;"]
def wsL_reroute_r2 : List Cond := [Cond.methodLink RX5 184 yX1_isGone, Cond.instanceMethod yX1_isGone, Cond.selects RX1 yX1_isGone yX1_isGone, Cond.initialized RX1, Cond.code yX1_isGone cX1_isGone 1 (some .boolean), Cond.fieldLink RX1 29 "Opticmesh$Light" "units" "I", Cond.methodLink RX5 212 yX5_openChannels, Cond.instanceMethod yX5_openChannels, Cond.selects RX5 yX5_openChannels yX5_openChannels, Cond.code yX5_openChannels cX5_openChannels 5 none, Cond.fieldLink RX5 12 "Opticmesh" "network" "LOpticmesh$Network;", Cond.fieldLink RX5 107 "Opticmesh$Network" "wavelengthCount" "I", Cond.fieldLink RX5 295 "Opticmesh$WayFinder" "open" "[I", Cond.methodLink RX5 264 yX2_hasFibre, Cond.instanceMethod yX2_hasFibre, Cond.selects RX2 yX2_hasFibre yX2_hasFibre, Cond.initialized RX2, Cond.code yX2_hasFibre cX2_hasFibre 2 (some .boolean), Cond.fieldLink RX2 28 "Opticmesh$Network" "fibreCount" "I", Cond.methodLink RX5 93 yX2_isCut, Cond.instanceMethod yX2_isCut, Cond.selects RX2 yX2_isCut yX2_isCut, Cond.code yX2_isCut cX2_isCut 2 (some .boolean), Cond.fieldLink RX2 34 "Opticmesh$Network" "cutFibres" "I"]
def wsL_reroute_r3 : List Cond := [Cond.methodLink RX5 119 yX5_wavelengthsUsed, Cond.instanceMethod yX5_wavelengthsUsed, Cond.selects RX5 yX5_wavelengthsUsed yX5_wavelengthsUsed, Cond.code yX5_wavelengthsUsed cX5_wavelengthsUsed 5 (some .int), Cond.methodLink RX5 112 yX1_wavelengthsOn, Cond.instanceMethod yX1_wavelengthsOn, Cond.selects RX1 yX1_wavelengthsOn yX1_wavelengthsOn, Cond.code yX1_wavelengthsOn cX1_wavelengthsOn 3 (some .int), Cond.fieldLink RX1 10 "Opticmesh$Light" "first" "LOpticmesh$Way;", Cond.fieldLink RX1 36 "Opticmesh$Light" "isProtected" "Z", Cond.fieldLink RX1 16 "Opticmesh$Light" "second" "LOpticmesh$Way;", Cond.methodLink RX1 40 yX1_isGone, Cond.methodLink RX1 47 yX3_wavelengthsOn, Cond.instanceMethod yX3_wavelengthsOn, Cond.selects RX3 yX3_wavelengthsOn yX3_wavelengthsOn, Cond.initialized RX3, Cond.code yX3_wavelengthsOn cX3_wavelengthsOn 5 (some .int), Cond.fieldLink RX3 7 "Opticmesh$Way" "count" "I", Cond.methodLink RX3 30 yX3_uses, Cond.instanceMethod yX3_uses, Cond.selects RX3 yX3_uses yX3_uses, Cond.code yX3_uses cX3_uses 2 (some .boolean), Cond.fieldLink RX3 19 "Opticmesh$Way" "fibres" "I", Cond.methodLink RX3 26 yX3_channelAt]
def wsL_reroute_r4 : List Cond := [Cond.instanceMethod yX3_channelAt, Cond.selects RX3 yX3_channelAt yX3_channelAt, Cond.code yX3_channelAt cX3_channelAt 2 (some .int), Cond.fieldLink RX3 22 "Opticmesh$Way" "channelBytes" "J", Cond.methodLink RX5 222 yX4_findFirst, Cond.instanceMethod yX4_findFirst, Cond.selects RX4 yX4_findFirst yX4_findFirst, Cond.initialized RX4, Cond.code yX4_findFirst cX4_findFirst 3 none, Cond.fieldLink RX4 36 "Opticmesh$WayFinder" "network" "LOpticmesh$Network;", Cond.fieldLink RX4 41 "Opticmesh$Network" "converters" "I", Cond.methodLink RX4 47 yX4_aim, Cond.instanceMethod yX4_aim, Cond.selects RX4 yX4_aim yX4_aim, Cond.code yX4_aim cX4_aim 4 none, Cond.fieldLink RX4 86 "Opticmesh$WayFinder" "target" "I", Cond.fieldLink RX4 89 "Opticmesh$WayFinder" "allowed" "I", Cond.fieldLink RX4 92 "Opticmesh$WayFinder" "converters" "I", Cond.fieldLink RX4 65 "Opticmesh$WayFinder" "keptCount" "I", Cond.methodLink RX4 51 yX4_walk, Cond.instanceMethod yX4_walk, Cond.selects RX4 yX4_walk yX4_walk, Cond.code yX4_walk cX4_walk 11 none, Cond.fieldLink RX4 9 "Opticmesh$WayFinder" "open" "[I"]
def wsL_reroute_r5 : List Cond := [Cond.fieldLink RX4 15 "Opticmesh$WayFinder" "trail" "[I", Cond.fieldLink RX4 18 "Opticmesh$WayFinder" "openOnTrail" "[I", Cond.fieldLink RX4 21 "Opticmesh$WayFinder" "convertsBefore" "[Z", Cond.methodLink RX4 93 yX4_keep, Cond.instanceMethod yX4_keep, Cond.selects RX4 yX4_keep yX4_keep, Cond.code yX4_keep cX4_keep 5 none, Cond.fieldLink RX4 27 "Opticmesh$WayFinder" "within" "[[I", Cond.fieldLink RX4 32 "Opticmesh$WayFinder" "kept" "[LOpticmesh$Way;", Cond.methodLink RX4 105 yX4_countConversionsBackwards, Cond.instanceMethod yX4_countConversionsBackwards, Cond.selects RX4 yX4_countConversionsBackwards yX4_countConversionsBackwards, Cond.code yX4_countConversionsBackwards cX4_countConversionsBackwards 4 none, Cond.methodLink RX4 122 yX4_leadingOn, Cond.instanceMethod yX4_leadingOn, Cond.selects RX4 yX4_leadingOn yX4_leadingOn, Cond.code yX4_leadingOn cX4_leadingOn 4 (some .int), Cond.methodLink RX4 109 yX3_start, Cond.instanceMethod yX3_start, Cond.selects RX3 yX3_start yX3_start, Cond.code yX3_start cX3_start 3 none, Cond.fieldLink RX3 13 "Opticmesh$Way" "length" "I", Cond.fieldLink RX3 16 "Opticmesh$Way" "conversions" "I", Cond.methodLink RX4 112 yX4_takeLowestWavelengths]
def wsL_reroute_r6 : List Cond := [Cond.instanceMethod yX4_takeLowestWavelengths, Cond.selects RX4 yX4_takeLowestWavelengths yX4_takeLowestWavelengths, Cond.code yX4_takeLowestWavelengths cX4_takeLowestWavelengths 10 none, Cond.static yX5_lowestIn, Cond.code yX5_lowestIn cX5_lowestIn 2 (some .int), Cond.methodLink RX4 119 yX3_append, Cond.instanceMethod yX3_append, Cond.selects RX3 yX3_append yX3_append, Cond.code yX3_append cX3_append 3 none, Cond.methodLink RX4 97 yX2_acrossFrom, Cond.instanceMethod yX2_acrossFrom, Cond.selects RX2 yX2_acrossFrom yX2_acrossFrom, Cond.code yX2_acrossFrom cX2_acrossFrom 3 (some .int), Cond.fieldLink RX2 18 "Opticmesh$Network" "ones" "[I", Cond.fieldLink RX2 22 "Opticmesh$Network" "others" "[I", Cond.methodLink RX2 37 yX2_hasFibre, Cond.methodLink RX4 101 yX2_lengthOf, Cond.instanceMethod yX2_lengthOf, Cond.selects RX2 yX2_lengthOf yX2_lengthOf, Cond.code yX2_lengthOf cX2_lengthOf 2 (some .int), Cond.fieldLink RX2 25 "Opticmesh$Network" "lengths" "[I", Cond.methodLink RX4 55 yX4_pickFirst, Cond.instanceMethod yX4_pickFirst, Cond.selects RX4 yX4_pickFirst yX4_pickFirst]
def wsL_reroute_r7 : List Cond := [Cond.code yX4_pickFirst cX4_pickFirst 2 none, Cond.fieldLink RX4 58 "Opticmesh$WayFinder" "first" "LOpticmesh$Way;", Cond.fieldLink RX4 62 "Opticmesh$WayFinder" "second" "LOpticmesh$Way;", Cond.methodLink RX4 75 yX3_isAheadOf, Cond.instanceMethod yX3_isAheadOf, Cond.selects RX3 yX3_isAheadOf yX3_isAheadOf, Cond.code yX3_isAheadOf cX3_isAheadOf 2 (some .boolean), Cond.methodLink RX5 228 yX3_become, Cond.instanceMethod yX3_become, Cond.selects RX3 yX3_become yX3_become, Cond.code yX3_become cX3_become 2 none]
def wsL_reroute : List Cond := .codeWith yL_reroute cL_reroute 4 (some .int) [(0, 9, 12, 29), (0, 9, 15, 19)] :: ((wsL_reroute_r1 ++ (wsL_reroute_r2 ++ (wsL_reroute_r3 ++ (wsL_reroute_r4 ++ (wsL_reroute_r5 ++ (wsL_reroute_r6 ++ wsL_reroute_r7)))))) ++ wsX10 ++ wsX50 ++ wsX40 ++ wsX30 ++ wsX20 ++ (vx_atS RX5 80 "java/lang/IllegalStateException" ["java/lang/RuntimeException", "java/lang/Exception"]).filter goodWord ++ (vx_atS RX5 202 "java/lang/IndexOutOfBoundsException" ["java/lang/RuntimeException", "java/lang/Exception"]).filter goodWord)
def wsL_merge_r1 : List Cond := [Cond.classLink RL 19 "java/lang/IllegalStateException", Cond.methodLink RL 70 yX5_merge, Cond.instanceMethod yX5_merge, Cond.selects RX5 yX5_merge yX5_merge, Cond.initialized RX5, Cond.code yX5_merge cX5_merge 3 (some .int), Cond.classLink RX5 76 "java/lang/IllegalStateException", Cond.initialized "java/lang/IllegalStateException", Cond.fieldLink RX5 59 "Opticmesh" "lightCount" "I", Cond.fieldLink RX5 34 "Opticmesh" "lightList" "[LOpticmesh$Light;", Cond.methodLink RX5 232 yX5_canMerge, Cond.instanceMethod yX5_canMerge, Cond.selects RX5 yX5_canMerge yX5_canMerge, Cond.code yX5_canMerge cX5_canMerge 3 (some .boolean), Cond.fieldLink RX5 12 "Opticmesh" "network" "LOpticmesh$Network;", Cond.fieldLink RX5 102 "Opticmesh$Network" "cutFibres" "I", Cond.fieldLink RX5 206 "Opticmesh$Light" "isProtected" "Z", Cond.fieldLink RX5 216 "Opticmesh$Light" "from" "I", Cond.fieldLink RX5 219 "Opticmesh$Light" "to" "I", Cond.fieldLink RX5 155 "Opticmesh$Light" "units" "I", Cond.methodLink RX5 188 yX1_isUp, Cond.instanceMethod yX1_isUp, Cond.selects RX1 yX1_isUp yX1_isUp, Cond.initialized RX1]
def wsL_merge_r2 : List Cond := [Cond.code yX1_isUp cX1_isUp 2 (some .boolean), Cond.fieldLink RX1 10 "Opticmesh$Light" "first" "LOpticmesh$Way;", Cond.fieldLink RX1 44 "Opticmesh$Way" "fibres" "I", Cond.fieldLink RX1 36 "Opticmesh$Light" "isProtected" "Z", Cond.fieldLink RX1 16 "Opticmesh$Light" "second" "LOpticmesh$Way;", Cond.methodLink RX1 40 yX1_isGone, Cond.instanceMethod yX1_isGone, Cond.selects RX1 yX1_isGone yX1_isGone, Cond.code yX1_isGone cX1_isGone 1 (some .boolean), Cond.fieldLink RX1 29 "Opticmesh$Light" "units" "I", Cond.methodLink RX5 277 yX1_joins, Cond.instanceMethod yX1_joins, Cond.selects RX1 yX1_joins yX1_joins, Cond.code yX1_joins cX1_joins 3 (some .boolean), Cond.fieldLink RX1 23 "Opticmesh$Light" "from" "I", Cond.fieldLink RX1 26 "Opticmesh$Light" "to" "I", Cond.methodLink RX5 236 yX5_handOver, Cond.instanceMethod yX5_handOver, Cond.selects RX5 yX5_handOver yX5_handOver, Cond.code yX5_handOver cX5_handOver 4 none, Cond.fieldLink RX5 63 "Opticmesh" "requestCount" "I", Cond.fieldLink RX5 41 "Opticmesh" "carriers" "[LOpticmesh$Light;"]
def wsL_merge : List Cond := .codeWith yL_merge cL_merge 3 (some .int) [(0, 8, 11, 19)] :: ((wsL_merge_r1 ++ wsL_merge_r2) ++ wsX50 ++ wsX20 ++ wsX10 ++ wsX30 ++ (vx_atS RX5 80 "java/lang/IllegalStateException" ["java/lang/RuntimeException", "java/lang/Exception"]).filter goodWord)
def wsL_move_r1 : List Cond := [Cond.classLink RL 19 "java/lang/IllegalStateException", Cond.methodLink RL 74 yX5_move, Cond.instanceMethod yX5_move, Cond.selects RX5 yX5_move yX5_move, Cond.initialized RX5, Cond.code yX5_move cX5_move 3 (some .int), Cond.classLink RX5 76 "java/lang/IllegalStateException", Cond.initialized "java/lang/IllegalStateException", Cond.fieldLink RX5 59 "Opticmesh" "lightCount" "I", Cond.fieldLink RX5 34 "Opticmesh" "lightList" "[LOpticmesh$Light;", Cond.methodLink RX5 242 yX1_wayAt, Cond.instanceMethod yX1_wayAt, Cond.selects RX1 yX1_wayAt yX1_wayAt, Cond.initialized RX1, Cond.code yX1_wayAt cX1_wayAt 2 (some (.object "Opticmesh$Way")), Cond.fieldLink RX1 10 "Opticmesh$Light" "first" "LOpticmesh$Way;", Cond.fieldLink RX1 36 "Opticmesh$Light" "isProtected" "Z", Cond.fieldLink RX1 16 "Opticmesh$Light" "second" "LOpticmesh$Way;", Cond.methodLink RX1 40 yX1_isGone, Cond.instanceMethod yX1_isGone, Cond.selects RX1 yX1_isGone yX1_isGone, Cond.code yX1_isGone cX1_isGone 1 (some .boolean), Cond.fieldLink RX1 29 "Opticmesh$Light" "units" "I", Cond.methodLink RX5 246 yX5_lowerWavelength]
def wsL_move_r2 : List Cond := [Cond.instanceMethod yX5_lowerWavelength, Cond.selects RX5 yX5_lowerWavelength yX5_lowerWavelength, Cond.code yX5_lowerWavelength cX5_lowerWavelength 4 (some .boolean), Cond.fieldLink RX5 298 "Opticmesh$Way" "conversions" "I", Cond.fieldLink RX5 12 "Opticmesh" "network" "LOpticmesh$Network;", Cond.fieldLink RX5 116 "Opticmesh$Network" "fibreCount" "I", Cond.methodLink RX5 301 yX3_uses, Cond.instanceMethod yX3_uses, Cond.selects RX3 yX3_uses yX3_uses, Cond.initialized RX3, Cond.code yX3_uses cX3_uses 2 (some .boolean), Cond.fieldLink RX3 19 "Opticmesh$Way" "fibres" "I", Cond.methodLink RX5 119 yX5_wavelengthsUsed, Cond.instanceMethod yX5_wavelengthsUsed, Cond.selects RX5 yX5_wavelengthsUsed yX5_wavelengthsUsed, Cond.code yX5_wavelengthsUsed cX5_wavelengthsUsed 5 (some .int), Cond.methodLink RX5 112 yX1_wavelengthsOn, Cond.instanceMethod yX1_wavelengthsOn, Cond.selects RX1 yX1_wavelengthsOn yX1_wavelengthsOn, Cond.code yX1_wavelengthsOn cX1_wavelengthsOn 3 (some .int), Cond.methodLink RX1 47 yX3_wavelengthsOn, Cond.instanceMethod yX3_wavelengthsOn, Cond.selects RX3 yX3_wavelengthsOn yX3_wavelengthsOn, Cond.code yX3_wavelengthsOn cX3_wavelengthsOn 5 (some .int)]
def wsL_move_r3 : List Cond := [Cond.fieldLink RX3 7 "Opticmesh$Way" "count" "I", Cond.methodLink RX3 30 yX3_uses, Cond.methodLink RX3 26 yX3_channelAt, Cond.instanceMethod yX3_channelAt, Cond.selects RX3 yX3_channelAt yX3_channelAt, Cond.code yX3_channelAt cX3_channelAt 2 (some .int), Cond.fieldLink RX3 22 "Opticmesh$Way" "channelBytes" "J", Cond.methodLink RX5 304 yX5_lowestIn, Cond.static yX5_lowestIn, Cond.code yX5_lowestIn cX5_lowestIn 2 (some .int), Cond.methodLink RX5 307 yX3_firstWavelength, Cond.instanceMethod yX3_firstWavelength, Cond.selects RX3 yX3_firstWavelength yX3_firstWavelength, Cond.code yX3_firstWavelength cX3_firstWavelength 1 (some .int), Cond.methodLink RX5 310 yX3_shiftTo, Cond.instanceMethod yX3_shiftTo, Cond.selects RX3 yX3_shiftTo yX3_shiftTo, Cond.code yX3_shiftTo cX3_shiftTo 5 none, Cond.methodLink RX3 34 yX3_firstWavelength]
def wsL_move : List Cond := .codeWith yL_move cL_move 3 (some .int) [(0, 8, 11, 19)] :: ((wsL_move_r1 ++ (wsL_move_r2 ++ wsL_move_r3)) ++ wsX50 ++ wsX10 ++ wsX30 ++ wsX20 ++ (vx_atS RX5 80 "java/lang/IllegalStateException" ["java/lang/RuntimeException", "java/lang/Exception"]).filter goodWord)
def wsL_law0_r1 : List Cond := [Cond.classLink RL 8 RX5, Cond.instantiable RX5 8, Cond.initialized RX5, Cond.classLink RL 78 RX6, Cond.instantiable RX6 28, Cond.initialized RX6, Cond.arrayClass .long, Cond.arrayClass .double, Cond.methodLink RL 77 yX5_init, Cond.instanceMethod yX5_init, Cond.code yX5_init cX5_init 3 none, Cond.methodLink RX5 3 objectInit, Cond.instanceMethod objectInit, Cond.code objectInit ⟨#[0xb1]⟩ 1 none, Cond.classLink RX5 9 RX2, Cond.instantiable RX2 8, Cond.initialized RX2, Cond.fieldLink RX5 12 "Opticmesh" "network" "LOpticmesh$Network;", Cond.classLink RX5 16 RX4, Cond.instantiable RX4 13, Cond.initialized RX4, Cond.fieldLink RX5 21 "Opticmesh" "finder" "LOpticmesh$WayFinder;", Cond.classLink RX5 25 RX0, Cond.instantiable RX0 3]
def wsL_law0_r2 : List Cond := [Cond.initialized RX0, Cond.fieldLink RX5 28 "Opticmesh" "colouring" "LOpticmesh$Colouring;", Cond.classLink RX5 32 RX1, Cond.fieldLink RX5 34 "Opticmesh" "lightList" "[LOpticmesh$Light;", Cond.instantiable RX1 7, Cond.initialized RX1, Cond.fieldLink RX5 41 "Opticmesh" "carriers" "[LOpticmesh$Light;", Cond.arrayClass .int, Cond.fieldLink RX5 44 "Opticmesh" "demands" "[I", Cond.instanceMethod yX2_init, Cond.code yX2_init cX2_init 1 none, Cond.methodLink RX2 3 objectInit, Cond.fieldLink RX2 9 "Opticmesh$Network" "nodeCount" "I", Cond.fieldLink RX2 15 "Opticmesh$Network" "wavelengthCount" "I", Cond.fieldLink RX2 18 "Opticmesh$Network" "ones" "[I", Cond.fieldLink RX2 22 "Opticmesh$Network" "others" "[I", Cond.fieldLink RX2 25 "Opticmesh$Network" "lengths" "[I", Cond.methodLink RX5 18 yX4_init, Cond.instanceMethod yX4_init, Cond.code yX4_init cX4_init 3 none, Cond.methodLink RX4 3 objectInit, Cond.fieldLink RX4 9 "Opticmesh$WayFinder" "open" "[I", Cond.fieldLink RX4 15 "Opticmesh$WayFinder" "trail" "[I", Cond.fieldLink RX4 18 "Opticmesh$WayFinder" "openOnTrail" "[I"]
def wsL_law0_r3 : List Cond := [Cond.arrayClass .boolean, Cond.fieldLink RX4 21 "Opticmesh$WayFinder" "convertsBefore" "[Z", Cond.classLink RX4 25 "[[I", Cond.fieldLink RX4 27 "Opticmesh$WayFinder" "within" "[[I", Cond.classLink RX4 30 RX3, Cond.fieldLink RX4 32 "Opticmesh$WayFinder" "kept" "[LOpticmesh$Way;", Cond.fieldLink RX4 36 "Opticmesh$WayFinder" "network" "LOpticmesh$Network;", Cond.instantiable RX3 5, Cond.initialized RX3, Cond.instanceMethod yX3_init, Cond.code yX3_init cX3_init 1 none, Cond.methodLink RX3 1 objectInit, Cond.instanceMethod yX0_init, Cond.code yX0_init cX0_init 1 none, Cond.methodLink RX0 3 objectInit, Cond.fieldLink RX0 9 "Opticmesh$Colouring" "fibres" "[I", Cond.fieldLink RX0 15 "Opticmesh$Colouring" "fibresTaken" "[I", Cond.methodLink RX5 38 yX1_init, Cond.instanceMethod yX1_init, Cond.code yX1_init cX1_init 2 none, Cond.methodLink RX1 1 objectInit, Cond.classLink RX1 7 RX3, Cond.fieldLink RX1 10 "Opticmesh$Light" "first" "LOpticmesh$Way;", Cond.fieldLink RX1 16 "Opticmesh$Light" "second" "LOpticmesh$Way;"]
def wsL_law0_r4 : List Cond := [Cond.fieldLink RX1 19 "Opticmesh$Light" "number" "I", Cond.methodLink RL 80 yX6_init, Cond.instanceMethod yX6_init, Cond.code yX6_init cX6_init 1 none, Cond.methodLink RX6 1 objectInit, Cond.fieldLink RX6 7 "OpticmeshModel" "nodes" "I", Cond.fieldLink RX6 13 "OpticmeshModel" "wavelengths" "I", Cond.fieldLink RX6 16 "OpticmeshModel" "doConvert" "[Z", Cond.fieldLink RX6 20 "OpticmeshModel" "ones" "[I", Cond.fieldLink RX6 24 "OpticmeshModel" "others" "[I", Cond.fieldLink RX6 27 "OpticmeshModel" "lengths" "[I", Cond.fieldLink RX6 30 "OpticmeshModel" "areCut" "[Z", Cond.fieldLink RX6 33 "OpticmeshModel" "used" "[I", Cond.fieldLink RX6 36 "OpticmeshModel" "carriers" "[I", Cond.fieldLink RX6 39 "OpticmeshModel" "demands" "[I", Cond.fieldLink RX6 42 "OpticmeshModel" "starts" "[I", Cond.fieldLink RX6 45 "OpticmeshModel" "ends" "[I", Cond.fieldLink RX6 48 "OpticmeshModel" "ways" "[I", Cond.fieldLink RX6 51 "OpticmeshModel" "laid" "[I", Cond.fieldLink RX6 54 "OpticmeshModel" "first" "[I", Cond.fieldLink RX6 57 "OpticmeshModel" "second" "[I", Cond.fieldLink RX6 60 "OpticmeshModel" "trial" "[I", Cond.fieldLink RX6 63 "OpticmeshModel" "other" "[I", Cond.fieldLink RX6 66 "OpticmeshModel" "best" "[I"]
def wsL_law0_r5 : List Cond := [Cond.fieldLink RX6 69 "OpticmeshModel" "bestOther" "[I", Cond.fieldLink RX6 72 "OpticmeshModel" "costs" "[I", Cond.fieldLink RX6 75 "OpticmeshModel" "alive" "[I", Cond.fieldLink RX6 78 "OpticmeshModel" "crossed" "[I", Cond.fieldLink RX6 81 "OpticmeshModel" "needed" "[I", Cond.methodLink RX6 84 yX6_empties, Cond.instanceMethod yX6_empties, Cond.selects RX6 yX6_empties yX6_empties, Cond.code yX6_empties cX6_empties 2 none, Cond.fieldLink RX6 90 "OpticmeshModel" "fibres" "I", Cond.fieldLink RX6 93 "OpticmeshModel" "requests" "I", Cond.fieldLink RX6 96 "OpticmeshModel" "lights" "I", Cond.methodLink RL 81 yL_begin, Cond.static yL_begin, Cond.initialized RL, Cond.codeWith yL_begin cL_begin 4 (some .int) [(0, 6, 9, 13)], Cond.classLink RL 13 "java/lang/IllegalArgumentException", Cond.methodLink RL 7 yX5_begin, Cond.instanceMethod yX5_begin, Cond.selects RX5 yX5_begin yX5_begin, Cond.code yX5_begin cX5_begin 3 none, Cond.classLink RX5 48 "java/lang/IllegalArgumentException", Cond.initialized "java/lang/IllegalArgumentException", Cond.fieldLink RX5 59 "Opticmesh" "lightCount" "I"]
def wsL_law0_r6 : List Cond := [Cond.fieldLink RX5 63 "Opticmesh" "requestCount" "I", Cond.methodLink RX5 55 yX2_startAgain, Cond.instanceMethod yX2_startAgain, Cond.selects RX2 yX2_startAgain yX2_startAgain, Cond.code yX2_startAgain cX2_startAgain 3 none, Cond.fieldLink RX2 28 "Opticmesh$Network" "fibreCount" "I", Cond.fieldLink RX2 31 "Opticmesh$Network" "converters" "I", Cond.fieldLink RX2 34 "Opticmesh$Network" "cutFibres" "I", Cond.methodLink RL 86 yX6_begin, Cond.instanceMethod yX6_begin, Cond.selects RX6 yX6_begin yX6_begin, Cond.code yX6_begin cX6_begin 3 none, Cond.methodLink RX6 99 yX6_in, Cond.static yX6_in, Cond.code yX6_in cX6_in 3 (some .boolean), Cond.methodLink RX6 103 yX6_holds, Cond.instanceMethod yX6_holds, Cond.selects RX6 yX6_holds yX6_holds, Cond.code yX6_holds cX6_holds 2 (some .boolean), Cond.fieldLink RX6 87 "OpticmeshModel" "thrown" "I", Cond.methodLink RL 87 yX6_thrown, Cond.instanceMethod yX6_thrown, Cond.selects RX6 yX6_thrown yX6_thrown, Cond.code yX6_thrown cX6_thrown 1 (some .int)]
def wsL_law0_r7 : List Cond := [Cond.methodLink RL 90 yL_addFibre, Cond.static yL_addFibre, Cond.codeWith yL_addFibre cL_addFibre 6 (some .int) [(0, 12, 15, 13), (0, 12, 19, 19)], Cond.classLink RL 19 "java/lang/IllegalStateException", Cond.methodLink RL 15 yX5_addFibre, Cond.instanceMethod yX5_addFibre, Cond.selects RX5 yX5_addFibre yX5_addFibre, Cond.code yX5_addFibre cX5_addFibre 5 (some .int), Cond.classLink RX5 76 "java/lang/IllegalStateException", Cond.initialized "java/lang/IllegalStateException", Cond.methodLink RX5 66 yX5_areTwoNodes, Cond.instanceMethod yX5_areTwoNodes, Cond.selects RX5 yX5_areTwoNodes yX5_areTwoNodes, Cond.code yX5_areTwoNodes cX5_areTwoNodes 3 (some .boolean), Cond.methodLink RX5 81 yX2_hasNode, Cond.instanceMethod yX2_hasNode, Cond.selects RX2 yX2_hasNode yX2_hasNode, Cond.code yX2_hasNode cX2_hasNode 2 (some .boolean), Cond.methodLink RX5 72 yX2_join, Cond.instanceMethod yX2_join, Cond.selects RX2 yX2_join yX2_join, Cond.code yX2_join cX2_join 5 (some .int), Cond.methodLink RL 93 yX6_addFibre, Cond.instanceMethod yX6_addFibre]
def wsL_law0_r8 : List Cond := [Cond.selects RX6 yX6_addFibre yX6_addFibre, Cond.code yX6_addFibre cX6_addFibre 4 (some .int), Cond.methodLink RX6 107 yX6_areTwo, Cond.instanceMethod yX6_areTwo, Cond.selects RX6 yX6_areTwo yX6_areTwo, Cond.code yX6_areTwo cX6_areTwo 3 (some .boolean), Cond.methodLink RL 94 yL_toggleConverter, Cond.static yL_toggleConverter, Cond.codeWith yL_toggleConverter cL_toggleConverter 4 (some .int) [(0, 16, 19, 13)], Cond.methodLink RL 21 yX5_toggleConverter, Cond.instanceMethod yX5_toggleConverter, Cond.selects RX5 yX5_toggleConverter yX5_toggleConverter, Cond.code yX5_toggleConverter cX5_toggleConverter 2 (some .boolean), Cond.fieldLink RX5 87 "Opticmesh$Network" "converters" "I", Cond.methodLink RL 97 yX6_toggleConverter, Cond.instanceMethod yX6_toggleConverter, Cond.selects RX6 yX6_toggleConverter yX6_toggleConverter, Cond.code yX6_toggleConverter cX6_toggleConverter 2 (some .boolean), Cond.methodLink RL 98 yL_cut, Cond.static yL_cut, Cond.codeWith yL_cut cL_cut 4 (some .int) [(0, 9, 12, 29), (0, 9, 15, 19)], Cond.classLink RL 29 "java/lang/IndexOutOfBoundsException", Cond.methodLink RL 25 yX5_cut, Cond.instanceMethod yX5_cut]
def wsL_law0_r9 : List Cond := [Cond.selects RX5 yX5_cut yX5_cut, Cond.code yX5_cut cX5_cut 3 (some .int), Cond.fieldLink RX5 102 "Opticmesh$Network" "cutFibres" "I", Cond.methodLink RX5 90 yX5_requireFibre, Cond.instanceMethod yX5_requireFibre, Cond.selects RX5 yX5_requireFibre yX5_requireFibre, Cond.code yX5_requireFibre cX5_requireFibre 2 none, Cond.classLink RX5 198 "java/lang/IndexOutOfBoundsException", Cond.initialized "java/lang/IndexOutOfBoundsException", Cond.methodLink RX5 264 yX2_hasFibre, Cond.instanceMethod yX2_hasFibre, Cond.selects RX2 yX2_hasFibre yX2_hasFibre, Cond.code yX2_hasFibre cX2_hasFibre 2 (some .boolean), Cond.methodLink RX5 93 yX2_isCut, Cond.instanceMethod yX2_isCut, Cond.selects RX2 yX2_isCut yX2_isCut, Cond.code yX2_isCut cX2_isCut 2 (some .boolean), Cond.methodLink RX5 98 yX5_lightsUp, Cond.instanceMethod yX5_lightsUp, Cond.selects RX5 yX5_lightsUp yX5_lightsUp, Cond.code yX5_lightsUp cX5_lightsUp 3 (some .int), Cond.methodLink RX5 188 yX1_isUp, Cond.instanceMethod yX1_isUp, Cond.selects RX1 yX1_isUp yX1_isUp]
def wsL_law0_r10 : List Cond := [Cond.code yX1_isUp cX1_isUp 2 (some .boolean), Cond.fieldLink RX1 44 "Opticmesh$Way" "fibres" "I", Cond.fieldLink RX1 36 "Opticmesh$Light" "isProtected" "Z", Cond.methodLink RX1 40 yX1_isGone, Cond.instanceMethod yX1_isGone, Cond.selects RX1 yX1_isGone yX1_isGone, Cond.code yX1_isGone cX1_isGone 1 (some .boolean), Cond.fieldLink RX1 29 "Opticmesh$Light" "units" "I", Cond.methodLink RL 100 yX6_cut, Cond.instanceMethod yX6_cut, Cond.selects RX6 yX6_cut yX6_cut, Cond.code yX6_cut cX6_cut 3 (some .int), Cond.methodLink RX6 114 yX6_isFibre, Cond.instanceMethod yX6_isFibre, Cond.selects RX6 yX6_isFibre yX6_isFibre, Cond.code yX6_isFibre cX6_isFibre 2 (some .boolean), Cond.methodLink RX6 117 yX6_numberOfUp, Cond.instanceMethod yX6_numberOfUp, Cond.selects RX6 yX6_numberOfUp yX6_numberOfUp, Cond.code yX6_numberOfUp cX6_numberOfUp 3 (some .int), Cond.methodLink RX6 111 yX6_isUp, Cond.instanceMethod yX6_isUp, Cond.selects RX6 yX6_isUp yX6_isUp, Cond.code yX6_isUp cX6_isUp 5 (some .boolean)]
def wsL_law0_r11 : List Cond := [Cond.methodLink RX6 178 yX6_way, Cond.instanceMethod yX6_way, Cond.selects RX6 yX6_way yX6_way, Cond.code yX6_way cX6_way 4 (some .int), Cond.methodLink RL 101 yL_repair, Cond.static yL_repair, Cond.codeWith yL_repair cL_repair 4 (some .int) [(0, 9, 12, 29), (0, 9, 15, 19)], Cond.methodLink RL 31 yX5_repair, Cond.instanceMethod yX5_repair, Cond.selects RX5 yX5_repair yX5_repair, Cond.code yX5_repair cX5_repair 3 (some .int), Cond.methodLink RL 103 yX6_repair, Cond.instanceMethod yX6_repair, Cond.selects RX6 yX6_repair yX6_repair, Cond.code yX6_repair cX6_repair 3 (some .int), Cond.methodLink RL 104 yL_lightOn, Cond.static yL_lightOn, Cond.codeWith yL_lightOn cL_lightOn 5 (some .int) [(0, 10, 13, 29), (0, 10, 17, 13)], Cond.methodLink RL 34 yX5_lightOn, Cond.instanceMethod yX5_lightOn, Cond.selects RX5 yX5_lightOn yX5_lightOn, Cond.code yX5_lightOn cX5_lightOn 4 (some .int), Cond.fieldLink RX5 107 "Opticmesh$Network" "wavelengthCount" "I", Cond.methodLink RX5 112 yX1_wavelengthsOn]
def wsL_law0_r12 : List Cond := [Cond.instanceMethod yX1_wavelengthsOn, Cond.selects RX1 yX1_wavelengthsOn yX1_wavelengthsOn, Cond.code yX1_wavelengthsOn cX1_wavelengthsOn 3 (some .int), Cond.methodLink RX1 47 yX3_wavelengthsOn, Cond.instanceMethod yX3_wavelengthsOn, Cond.selects RX3 yX3_wavelengthsOn yX3_wavelengthsOn, Cond.code yX3_wavelengthsOn cX3_wavelengthsOn 5 (some .int), Cond.fieldLink RX3 7 "Opticmesh$Way" "count" "I", Cond.methodLink RX3 30 yX3_uses, Cond.instanceMethod yX3_uses, Cond.selects RX3 yX3_uses yX3_uses, Cond.code yX3_uses cX3_uses 2 (some .boolean), Cond.fieldLink RX3 19 "Opticmesh$Way" "fibres" "I", Cond.methodLink RX3 26 yX3_channelAt, Cond.instanceMethod yX3_channelAt, Cond.selects RX3 yX3_channelAt yX3_channelAt, Cond.code yX3_channelAt cX3_channelAt 2 (some .int), Cond.fieldLink RX3 22 "Opticmesh$Way" "channelBytes" "J", Cond.methodLink RL 107 yX6_lightOn, Cond.instanceMethod yX6_lightOn, Cond.selects RX6 yX6_lightOn yX6_lightOn, Cond.code yX6_lightOn cX6_lightOn 3 (some .int), Cond.methodLink RL 108 yX5_load, Cond.instanceMethod yX5_load]
def wsL_law0_r13 : List Cond := [Cond.selects RX5 yX5_load yX5_load, Cond.code yX5_load cX5_load 3 (some .int), Cond.fieldLink RX5 116 "Opticmesh$Network" "fibreCount" "I", Cond.methodLink RX5 128 Lib.Math.max.name, Cond.static Lib.Math.max.name, Cond.initialized "java/lang/Math", Cond.code Lib.Math.max.name Lib.Math.max.code 2 (some .int), Cond.methodLink RX5 119 yX5_wavelengthsUsed, Cond.instanceMethod yX5_wavelengthsUsed, Cond.selects RX5 yX5_wavelengthsUsed yX5_wavelengthsUsed, Cond.code yX5_wavelengthsUsed cX5_wavelengthsUsed 5 (some .int), Cond.methodLink RX5 123 yJ6_bitCount_0f7a4, Cond.static yJ6_bitCount_0f7a4, Cond.initialized RJ6, Cond.code yJ6_bitCount_0f7a4 cJ6_bitCount_0f7a4 1 (some .int), Cond.constant RJ6 265 (1431655765), Cond.constant RJ6 266 (858993459), Cond.constant RJ6 267 (252645135), Cond.methodLink RL 111 yX6_load, Cond.instanceMethod yX6_load, Cond.selects RX6 yX6_load yX6_load, Cond.code yX6_load cX6_load 3 (some .int), Cond.methodLink RX6 121 yX6_usedOn, Cond.instanceMethod yX6_usedOn]
def wsL_law0_r14 : List Cond := [Cond.selects RX6 yX6_usedOn yX6_usedOn, Cond.code yX6_usedOn cX6_usedOn 4 (some .int), Cond.methodLink RL 112 yL_usage, Cond.static yL_usage, Cond.codeWith yL_usage cL_usage 3 (some .int) [(0, 8, 11, 19)], Cond.methodLink RL 38 yX5_usage, Cond.instanceMethod yX5_usage, Cond.selects RX5 yX5_usage yX5_usage, Cond.code yX5_usage cX5_usage 4 (some .float), Cond.methodLink RL 115 yX6_usage, Cond.instanceMethod yX6_usage, Cond.selects RX6 yX6_usage yX6_usage, Cond.code yX6_usage cX6_usage 3 (some .float), Cond.methodLink RL 116 yL_request, Cond.static yL_request, Cond.codeWith yL_request cL_request 7 (some .int) [(0, 14, 17, 13), (0, 14, 21, 19)], Cond.methodLink RL 42 yX5_request, Cond.instanceMethod yX5_request, Cond.selects RX5 yX5_request yX5_request, Cond.code yX5_request cX5_request 6 (some .int), Cond.fieldLink RX5 155 "Opticmesh$Light" "units" "I", Cond.methodLink RX5 136 yX5_isRule, Cond.static yX5_isRule, Cond.code yX5_isRule cX5_isRule 1 (some .boolean)]
def wsL_law0_r15 : List Cond := [Cond.methodLink RX5 143 yX5_lightWithRoom, Cond.instanceMethod yX5_lightWithRoom, Cond.selects RX5 yX5_lightWithRoom yX5_lightWithRoom, Cond.code yX5_lightWithRoom cX5_lightWithRoom 7 (some (.object "Opticmesh$Light")), Cond.fieldLink RX5 206 "Opticmesh$Light" "isProtected" "Z", Cond.methodLink RX5 277 yX1_joins, Cond.instanceMethod yX1_joins, Cond.selects RX1 yX1_joins yX1_joins, Cond.code yX1_joins cX1_joins 3 (some .boolean), Cond.fieldLink RX1 23 "Opticmesh$Light" "from" "I", Cond.fieldLink RX1 26 "Opticmesh$Light" "to" "I", Cond.methodLink RX5 147 yX5_findWays, Cond.instanceMethod yX5_findWays, Cond.selects RX5 yX5_findWays yX5_findWays, Cond.code yX5_findWays cX5_findWays 4 none, Cond.methodLink RX5 212 yX5_openChannels, Cond.instanceMethod yX5_openChannels, Cond.selects RX5 yX5_openChannels yX5_openChannels, Cond.code yX5_openChannels cX5_openChannels 5 none, Cond.fieldLink RX5 295 "Opticmesh$WayFinder" "open" "[I", Cond.methodLink RX5 222 yX4_findFirst, Cond.instanceMethod yX4_findFirst, Cond.selects RX4 yX4_findFirst yX4_findFirst, Cond.code yX4_findFirst cX4_findFirst 3 none]
def wsL_law0_r16 : List Cond := [Cond.fieldLink RX4 41 "Opticmesh$Network" "converters" "I", Cond.methodLink RX4 47 yX4_aim, Cond.instanceMethod yX4_aim, Cond.selects RX4 yX4_aim yX4_aim, Cond.code yX4_aim cX4_aim 4 none, Cond.fieldLink RX4 86 "Opticmesh$WayFinder" "target" "I", Cond.fieldLink RX4 89 "Opticmesh$WayFinder" "allowed" "I", Cond.fieldLink RX4 92 "Opticmesh$WayFinder" "converters" "I", Cond.fieldLink RX4 65 "Opticmesh$WayFinder" "keptCount" "I", Cond.methodLink RX4 51 yX4_walk, Cond.instanceMethod yX4_walk, Cond.selects RX4 yX4_walk yX4_walk, Cond.code yX4_walk cX4_walk 11 none, Cond.methodLink RX4 93 yX4_keep, Cond.instanceMethod yX4_keep, Cond.selects RX4 yX4_keep yX4_keep, Cond.code yX4_keep cX4_keep 5 none, Cond.methodLink RX4 105 yX4_countConversionsBackwards, Cond.instanceMethod yX4_countConversionsBackwards, Cond.selects RX4 yX4_countConversionsBackwards yX4_countConversionsBackwards, Cond.code yX4_countConversionsBackwards cX4_countConversionsBackwards 4 none, Cond.methodLink RX4 122 yX4_leadingOn, Cond.instanceMethod yX4_leadingOn, Cond.selects RX4 yX4_leadingOn yX4_leadingOn]
def wsL_law0_r17 : List Cond := [Cond.code yX4_leadingOn cX4_leadingOn 4 (some .int), Cond.methodLink RX4 109 yX3_start, Cond.instanceMethod yX3_start, Cond.selects RX3 yX3_start yX3_start, Cond.code yX3_start cX3_start 3 none, Cond.fieldLink RX3 13 "Opticmesh$Way" "length" "I", Cond.fieldLink RX3 16 "Opticmesh$Way" "conversions" "I", Cond.methodLink RX4 112 yX4_takeLowestWavelengths, Cond.instanceMethod yX4_takeLowestWavelengths, Cond.selects RX4 yX4_takeLowestWavelengths yX4_takeLowestWavelengths, Cond.code yX4_takeLowestWavelengths cX4_takeLowestWavelengths 10 none, Cond.static yX5_lowestIn, Cond.code yX5_lowestIn cX5_lowestIn 2 (some .int), Cond.methodLink RX4 119 yX3_append, Cond.instanceMethod yX3_append, Cond.selects RX3 yX3_append yX3_append, Cond.code yX3_append cX3_append 3 none, Cond.methodLink RX4 97 yX2_acrossFrom, Cond.instanceMethod yX2_acrossFrom, Cond.selects RX2 yX2_acrossFrom yX2_acrossFrom, Cond.code yX2_acrossFrom cX2_acrossFrom 3 (some .int), Cond.methodLink RX2 37 yX2_hasFibre, Cond.methodLink RX4 101 yX2_lengthOf, Cond.instanceMethod yX2_lengthOf]
def wsL_law0_r18 : List Cond := [Cond.selects RX2 yX2_lengthOf yX2_lengthOf, Cond.code yX2_lengthOf cX2_lengthOf 2 (some .int), Cond.methodLink RX4 55 yX4_pickFirst, Cond.instanceMethod yX4_pickFirst, Cond.selects RX4 yX4_pickFirst yX4_pickFirst, Cond.code yX4_pickFirst cX4_pickFirst 2 none, Cond.fieldLink RX4 58 "Opticmesh$WayFinder" "first" "LOpticmesh$Way;", Cond.fieldLink RX4 62 "Opticmesh$WayFinder" "second" "LOpticmesh$Way;", Cond.methodLink RX4 75 yX3_isAheadOf, Cond.instanceMethod yX3_isAheadOf, Cond.selects RX3 yX3_isAheadOf yX3_isAheadOf, Cond.code yX3_isAheadOf cX3_isAheadOf 2 (some .boolean), Cond.methodLink RX5 289 yX4_findOnLowestWavelength, Cond.instanceMethod yX4_findOnLowestWavelength, Cond.selects RX4 yX4_findOnLowestWavelength yX4_findOnLowestWavelength, Cond.code yX4_findOnLowestWavelength cX4_findOnLowestWavelength 4 none, Cond.methodLink RX5 292 yX4_findPair, Cond.instanceMethod yX4_findPair, Cond.selects RX4 yX4_findPair yX4_findPair, Cond.code yX4_findPair cX4_findPair 5 none, Cond.fieldLink RX4 68 "Opticmesh$Way" "fibres" "I", Cond.methodLink RX4 71 yX4_offerPair, Cond.instanceMethod yX4_offerPair, Cond.selects RX4 yX4_offerPair yX4_offerPair]
def wsL_law0_r19 : List Cond := [Cond.code yX4_offerPair cX4_offerPair 6 none, Cond.methodLink RX4 79 yX4_isPairAhead, Cond.static yX4_isPairAhead, Cond.code yX4_isPairAhead cX4_isPairAhead 5 (some .boolean), Cond.fieldLink RX4 83 "Opticmesh$Way" "length" "I", Cond.methodLink RX5 151 yX5_lightOnFoundWays, Cond.instanceMethod yX5_lightOnFoundWays, Cond.selects RX5 yX5_lightOnFoundWays yX5_lightOnFoundWays, Cond.code yX5_lightOnFoundWays cX5_lightOnFoundWays 5 (some (.object "Opticmesh$Light")), Cond.fieldLink RX5 160 "Opticmesh$WayFinder" "first" "LOpticmesh$Way;", Cond.fieldLink RX5 166 "Opticmesh$WayFinder" "second" "LOpticmesh$Way;", Cond.methodLink RX5 280 yX5_livingLights, Cond.instanceMethod yX5_livingLights, Cond.selects RX5 yX5_livingLights yX5_livingLights, Cond.code yX5_livingLights cX5_livingLights 3 (some .int), Cond.methodLink RX5 184 yX1_isGone, Cond.methodLink RX5 285 yX1_start, Cond.instanceMethod yX1_start, Cond.selects RX1 yX1_start yX1_start, Cond.code yX1_start cX1_start 5 none, Cond.methodLink RX1 32 yX3_become, Cond.instanceMethod yX3_become, Cond.selects RX3 yX3_become yX3_become, Cond.code yX3_become cX3_become 2 none]
def wsL_law0_r20 : List Cond := [Cond.methodLink RL 119 yX6_request, Cond.instanceMethod yX6_request, Cond.selects RX6 yX6_request yX6_request, Cond.code yX6_request cX6_request 8 (some .int), Cond.methodLink RX6 199 yX6_roomFor, Cond.instanceMethod yX6_roomFor, Cond.selects RX6 yX6_roomFor yX6_roomFor, Cond.code yX6_roomFor cX6_roomFor 6 (some .int), Cond.methodLink RX6 189 yX6_haveSameEnds, Cond.instanceMethod yX6_haveSameEnds, Cond.selects RX6 yX6_haveSameEnds yX6_haveSameEnds, Cond.code yX6_haveSameEnds cX6_haveSameEnds 4 (some .boolean), Cond.methodLink RX6 192 yX6_carried, Cond.instanceMethod yX6_carried, Cond.selects RX6 yX6_carried yX6_carried, Cond.code yX6_carried cX6_carried 4 (some .int), Cond.methodLink RX6 203 yX6_numberOfLights, Cond.instanceMethod yX6_numberOfLights, Cond.selects RX6 yX6_numberOfLights yX6_numberOfLights, Cond.code yX6_numberOfLights cX6_numberOfLights 3 (some .int), Cond.methodLink RX6 206 yX6_findsBy, Cond.instanceMethod yX6_findsBy, Cond.selects RX6 yX6_findsBy yX6_findsBy, Cond.code yX6_findsBy cX6_findsBy 4 (some .boolean)]
def wsL_law0_r21 : List Cond := [Cond.methodLink RX6 161 yX6_finds, Cond.instanceMethod yX6_finds, Cond.selects RX6 yX6_finds yX6_finds, Cond.code yX6_finds cX6_finds 5 (some .boolean), Cond.methodLink RX6 141 yX6_sets, Cond.static yX6_sets, Cond.code yX6_sets cX6_sets 2 none, Cond.methodLink RX6 145 yX6_goesOn, Cond.instanceMethod yX6_goesOn, Cond.selects RX6 yX6_goesOn yX6_goesOn, Cond.code yX6_goesOn cX6_goesOn 7 (some .boolean), Cond.methodLink RX6 125 yX6_isStep, Cond.instanceMethod yX6_isStep, Cond.selects RX6 yX6_isStep yX6_isStep, Cond.code yX6_isStep cX6_isStep 4 (some .boolean), Cond.methodLink RX6 149 yX6_lays, Cond.instanceMethod yX6_lays, Cond.selects RX6 yX6_lays yX6_lays, Cond.code yX6_lays cX6_lays 9 (some .boolean), Cond.methodLink RX6 129 yX6_free, Cond.instanceMethod yX6_free, Cond.selects RX6 yX6_free yX6_free, Cond.code yX6_free cX6_free 6 (some .int), Cond.methodLink RX6 133 yX6_cost]
def wsL_law0_r22 : List Cond := [Cond.instanceMethod yX6_cost, Cond.selects RX6 yX6_cost yX6_cost, Cond.code yX6_cost cX6_cost 8 (some .int), Cond.methodLink RX6 137 yX6_follows, Cond.instanceMethod yX6_follows, Cond.selects RX6 yX6_follows yX6_follows, Cond.code yX6_follows cX6_follows 6 (some .int), Cond.methodLink RX6 153 yX6_isAhead, Cond.static yX6_isAhead, Cond.code yX6_isAhead cX6_isAhead 3 (some .boolean), Cond.methodLink RX6 157 yX6_copies, Cond.static yX6_copies, Cond.code yX6_copies cX6_copies 3 none, Cond.methodLink RX6 172 yX6_findsOneWavelength, Cond.instanceMethod yX6_findsOneWavelength, Cond.selects RX6 yX6_findsOneWavelength yX6_findsOneWavelength, Cond.code yX6_findsOneWavelength cX6_findsOneWavelength 4 (some .boolean), Cond.methodLink RX6 175 yX6_findsPair, Cond.instanceMethod yX6_findsPair, Cond.selects RX6 yX6_findsPair yX6_findsPair, Cond.code yX6_findsPair cX6_findsPair 5 (some .boolean), Cond.methodLink RX6 165 yX6_laysOne, Cond.instanceMethod yX6_laysOne, Cond.selects RX6 yX6_laysOne yX6_laysOne]
def wsL_law0_r23 : List Cond := [Cond.code yX6_laysOne cX6_laysOne 5 (some .boolean), Cond.methodLink RX6 168 yX6_isBetterPair, Cond.instanceMethod yX6_isBetterPair, Cond.selects RX6 yX6_isBetterPair yX6_isBetterPair, Cond.code yX6_isBetterPair cX6_isBetterPair 3 (some .boolean), Cond.methodLink RX6 209 yX6_makes, Cond.instanceMethod yX6_makes, Cond.selects RX6 yX6_makes yX6_makes, Cond.code yX6_makes cX6_makes 4 (some .int), Cond.methodLink RX6 195 yX6_gets, Cond.instanceMethod yX6_gets, Cond.selects RX6 yX6_gets yX6_gets, Cond.code yX6_gets cX6_gets 5 none, Cond.methodLink RX6 185 yX6_uses, Cond.instanceMethod yX6_uses, Cond.selects RX6 yX6_uses yX6_uses, Cond.code yX6_uses cX6_uses 5 none, Cond.methodLink RX6 182 yX6_placeOf, Cond.static yX6_placeOf, Cond.code yX6_placeOf cX6_placeOf 1 (some .int), Cond.methodLink RL 120 yL_newLength, Cond.static yL_newLength, Cond.codeWith yL_newLength cL_newLength 6 (some .int) [(0, 12, 15, 13), (0, 12, 19, 19)], Cond.methodLink RL 46 yX5_newLength]
def wsL_law0_r24 : List Cond := [Cond.instanceMethod yX5_newLength, Cond.selects RX5 yX5_newLength yX5_newLength, Cond.code yX5_newLength cX5_newLength 6 (some .int), Cond.fieldLink RX5 169 "Opticmesh$Way" "length" "I", Cond.methodLink RL 122 yX6_newLength, Cond.instanceMethod yX6_newLength, Cond.selects RX6 yX6_newLength yX6_newLength, Cond.code yX6_newLength cX6_newLength 6 (some .int), Cond.methodLink RL 123 yL_release, Cond.static yL_release, Cond.codeWith yL_release cL_release 4 (some .int) [(0, 9, 12, 29), (0, 9, 15, 19)], Cond.methodLink RL 49 yX5_release, Cond.instanceMethod yX5_release, Cond.selects RX5 yX5_release yX5_release, Cond.code yX5_release cX5_release 3 (some .int), Cond.methodLink RX5 174 yX5_carrierOf, Cond.instanceMethod yX5_carrierOf, Cond.selects RX5 yX5_carrierOf yX5_carrierOf, Cond.code yX5_carrierOf cX5_carrierOf 3 (some (.object "Opticmesh$Light")), Cond.methodLink RL 125 yX6_release, Cond.instanceMethod yX6_release, Cond.selects RX6 yX6_release yX6_release, Cond.code yX6_release cX6_release 4 (some .int), Cond.methodLink RX6 212 yX6_errorOfRequest]
def wsL_law0_r25 : List Cond := [Cond.instanceMethod yX6_errorOfRequest, Cond.selects RX6 yX6_errorOfRequest yX6_errorOfRequest, Cond.code yX6_errorOfRequest cX6_errorOfRequest 2 (some .int), Cond.methodLink RX6 215 yX6_ends, Cond.instanceMethod yX6_ends, Cond.selects RX6 yX6_ends yX6_ends, Cond.code yX6_ends cX6_ends 3 none, Cond.methodLink RL 126 yL_lightOf, Cond.static yL_lightOf, Cond.codeWith yL_lightOf cL_lightOf 4 (some .int) [(0, 9, 12, 29), (0, 9, 15, 19)], Cond.methodLink RL 52 yX5_lightOf, Cond.instanceMethod yX5_lightOf, Cond.selects RX5 yX5_lightOf yX5_lightOf, Cond.code yX5_lightOf cX5_lightOf 2 (some .int), Cond.fieldLink RX5 178 "Opticmesh$Light" "number" "I", Cond.methodLink RL 128 yX6_lightOf, Cond.instanceMethod yX6_lightOf, Cond.selects RX6 yX6_lightOf yX6_lightOf, Cond.code yX6_lightOf cX6_lightOf 2 (some .int), Cond.methodLink RL 129 yX5_requests, Cond.instanceMethod yX5_requests, Cond.selects RX5 yX5_requests yX5_requests, Cond.code yX5_requests cX5_requests 1 (some .int), Cond.methodLink RL 132 yX6_requests]
def wsL_law0_r26 : List Cond := [Cond.instanceMethod yX6_requests, Cond.selects RX6 yX6_requests yX6_requests, Cond.code yX6_requests cX6_requests 1 (some .int), Cond.methodLink RL 133 yX5_lights, Cond.instanceMethod yX5_lights, Cond.selects RX5 yX5_lights yX5_lights, Cond.code yX5_lights cX5_lights 1 (some .int), Cond.methodLink RL 136 yX6_lights, Cond.instanceMethod yX6_lights, Cond.selects RX6 yX6_lights yX6_lights, Cond.code yX6_lights cX6_lights 1 (some .int), Cond.methodLink RL 137 yL_state, Cond.static yL_state, Cond.codeWith yL_state cL_state 4 (some .int) [(0, 9, 12, 29)], Cond.methodLink RL 55 yX5_state, Cond.instanceMethod yX5_state, Cond.selects RX5 yX5_state yX5_state, Cond.code yX5_state cX5_state 3 (some .int), Cond.methodLink RX5 181 yX5_existingLight, Cond.instanceMethod yX5_existingLight, Cond.selects RX5 yX5_existingLight yX5_existingLight, Cond.code yX5_existingLight cX5_existingLight 2 (some (.object "Opticmesh$Light")), Cond.methodLink RL 139 yX6_state, Cond.instanceMethod yX6_state]
def wsL_law0_r27 : List Cond := [Cond.selects RX6 yX6_state yX6_state, Cond.code yX6_state cX6_state 2 (some .int), Cond.methodLink RX6 218 yX6_isLight, Cond.instanceMethod yX6_isLight, Cond.selects RX6 yX6_isLight yX6_isLight, Cond.code yX6_isLight cX6_isLight 2 (some .boolean), Cond.methodLink RL 140 yL_units, Cond.static yL_units, Cond.codeWith yL_units cL_units 4 (some .int) [(0, 9, 12, 29)], Cond.methodLink RL 58 yX5_units, Cond.instanceMethod yX5_units, Cond.selects RX5 yX5_units yX5_units, Cond.code yX5_units cX5_units 2 (some .int), Cond.methodLink RL 142 yX6_units, Cond.instanceMethod yX6_units, Cond.selects RX6 yX6_units yX6_units, Cond.code yX6_units cX6_units 2 (some .int), Cond.methodLink RL 143 yL_channels, Cond.static yL_channels, Cond.codeWith yL_channels cL_channels 5 (some .int) [(0, 10, 13, 29)], Cond.methodLink RL 61 yX5_channels, Cond.instanceMethod yX5_channels, Cond.selects RX5 yX5_channels yX5_channels, Cond.code yX5_channels cX5_channels 3 (some .int)]
def wsL_law0_r28 : List Cond := [Cond.fieldLink RX5 195 "Opticmesh$Way" "count" "I", Cond.methodLink RX5 191 yX5_wayOf, Cond.instanceMethod yX5_wayOf, Cond.selects RX5 yX5_wayOf yX5_wayOf, Cond.code yX5_wayOf cX5_wayOf 4 (some (.object "Opticmesh$Way")), Cond.methodLink RX5 242 yX1_wayAt, Cond.instanceMethod yX1_wayAt, Cond.selects RX1 yX1_wayAt yX1_wayAt, Cond.code yX1_wayAt cX1_wayAt 2 (some (.object "Opticmesh$Way")), Cond.methodLink RL 145 yX6_channels, Cond.instanceMethod yX6_channels, Cond.selects RX6 yX6_channels yX6_channels, Cond.code yX6_channels cX6_channels 3 (some .int), Cond.methodLink RX6 221 yX6_isWay, Cond.instanceMethod yX6_isWay, Cond.selects RX6 yX6_isWay yX6_isWay, Cond.code yX6_isWay cX6_isWay 3 (some .boolean), Cond.methodLink RL 146 yL_channel, Cond.static yL_channel, Cond.codeWith yL_channel cL_channel 6 (some .int) [(0, 12, 15, 29)], Cond.methodLink RL 64 yX5_channel, Cond.instanceMethod yX5_channel, Cond.selects RX5 yX5_channel yX5_channel, Cond.code yX5_channel cX5_channel 5 (some .int)]
def wsL_law0_r29 : List Cond := [Cond.methodLink RX5 203 yX3_channelAt, Cond.methodLink RL 148 yX6_channel, Cond.instanceMethod yX6_channel, Cond.selects RX6 yX6_channel yX6_channel, Cond.code yX6_channel cX6_channel 4 (some .int), Cond.methodLink RL 149 yL_reroute, Cond.static yL_reroute, Cond.codeWith yL_reroute cL_reroute 4 (some .int) [(0, 9, 12, 29), (0, 9, 15, 19)], Cond.methodLink RL 67 yX5_reroute, Cond.instanceMethod yX5_reroute, Cond.selects RX5 yX5_reroute yX5_reroute, Cond.code yX5_reroute cX5_reroute 4 (some .int), Cond.fieldLink RX5 216 "Opticmesh$Light" "from" "I", Cond.fieldLink RX5 219 "Opticmesh$Light" "to" "I", Cond.fieldLink RX5 227 "Opticmesh$Light" "first" "LOpticmesh$Way;", Cond.methodLink RX5 228 yX3_become, Cond.methodLink RL 151 yX6_reroute, Cond.instanceMethod yX6_reroute, Cond.selects RX6 yX6_reroute yX6_reroute, Cond.code yX6_reroute cX6_reroute 3 (some .int), Cond.methodLink RL 152 yL_merge, Cond.static yL_merge, Cond.codeWith yL_merge cL_merge 3 (some .int) [(0, 8, 11, 19)], Cond.methodLink RL 70 yX5_merge]
def wsL_law0_r30 : List Cond := [Cond.instanceMethod yX5_merge, Cond.selects RX5 yX5_merge yX5_merge, Cond.code yX5_merge cX5_merge 3 (some .int), Cond.methodLink RX5 232 yX5_canMerge, Cond.instanceMethod yX5_canMerge, Cond.selects RX5 yX5_canMerge yX5_canMerge, Cond.code yX5_canMerge cX5_canMerge 3 (some .boolean), Cond.methodLink RX5 236 yX5_handOver, Cond.instanceMethod yX5_handOver, Cond.selects RX5 yX5_handOver yX5_handOver, Cond.code yX5_handOver cX5_handOver 4 none, Cond.methodLink RL 155 yX6_merge, Cond.instanceMethod yX6_merge, Cond.selects RX6 yX6_merge yX6_merge, Cond.code yX6_merge cX6_merge 3 (some .int), Cond.methodLink RX6 224 yX6_areMergeable, Cond.instanceMethod yX6_areMergeable, Cond.selects RX6 yX6_areMergeable yX6_areMergeable, Cond.code yX6_areMergeable cX6_areMergeable 3 (some .boolean), Cond.methodLink RX6 227 yX6_takesOver, Cond.instanceMethod yX6_takesOver, Cond.selects RX6 yX6_takesOver yX6_takesOver, Cond.code yX6_takesOver cX6_takesOver 4 none, Cond.methodLink RL 156 yL_move]
def wsL_law0_r31 : List Cond := [Cond.static yL_move, Cond.codeWith yL_move cL_move 3 (some .int) [(0, 8, 11, 19)], Cond.methodLink RL 74 yX5_move, Cond.instanceMethod yX5_move, Cond.selects RX5 yX5_move yX5_move, Cond.code yX5_move cX5_move 3 (some .int), Cond.methodLink RX5 246 yX5_lowerWavelength, Cond.instanceMethod yX5_lowerWavelength, Cond.selects RX5 yX5_lowerWavelength yX5_lowerWavelength, Cond.code yX5_lowerWavelength cX5_lowerWavelength 4 (some .boolean), Cond.fieldLink RX5 298 "Opticmesh$Way" "conversions" "I", Cond.methodLink RX5 301 yX3_uses, Cond.methodLink RX5 304 yX5_lowestIn, Cond.methodLink RX5 307 yX3_firstWavelength, Cond.instanceMethod yX3_firstWavelength, Cond.selects RX3 yX3_firstWavelength yX3_firstWavelength, Cond.code yX3_firstWavelength cX3_firstWavelength 1 (some .int), Cond.methodLink RX5 310 yX3_shiftTo, Cond.instanceMethod yX3_shiftTo, Cond.selects RX3 yX3_shiftTo yX3_shiftTo, Cond.code yX3_shiftTo cX3_shiftTo 5 none, Cond.methodLink RX3 34 yX3_firstWavelength, Cond.methodLink RL 158 yX6_move, Cond.instanceMethod yX6_move]
def wsL_law0_r32 : List Cond := [Cond.selects RX6 yX6_move yX6_move, Cond.code yX6_move cX6_move 4 (some .int), Cond.methodLink RX6 231 yX6_lower, Cond.instanceMethod yX6_lower, Cond.selects RX6 yX6_lower yX6_lower, Cond.code yX6_lower cX6_lower 8 (some .int), Cond.methodLink RX6 234 yX6_moves, Cond.instanceMethod yX6_moves, Cond.selects RX6 yX6_moves yX6_moves, Cond.code yX6_moves cX6_moves 5 none, Cond.methodLink RL 159 yX5_wavelengthsNeeded, Cond.instanceMethod yX5_wavelengthsNeeded, Cond.selects RX5 yX5_wavelengthsNeeded yX5_wavelengthsNeeded, Cond.code yX5_wavelengthsNeeded cX5_wavelengthsNeeded 2 (some .int), Cond.fieldLink RX5 255 "Opticmesh$Way" "fibres" "I", Cond.methodLink RX5 252 yX0_clear, Cond.instanceMethod yX0_clear, Cond.selects RX0 yX0_clear yX0_clear, Cond.code yX0_clear cX0_clear 1 none, Cond.fieldLink RX0 18 "Opticmesh$Colouring" "count" "I", Cond.methodLink RX5 258 yX0_add, Cond.instanceMethod yX0_add, Cond.selects RX0 yX0_add yX0_add, Cond.code yX0_add cX0_add 2 none]
def wsL_law0_r33 : List Cond := [Cond.methodLink RX5 261 yX0_leastColours, Cond.instanceMethod yX0_leastColours, Cond.selects RX0 yX0_leastColours yX0_leastColours, Cond.code yX0_leastColours cX0_leastColours 2 (some .int), Cond.methodLink RX0 22 yX0_waysOnBusiestFibre, Cond.instanceMethod yX0_waysOnBusiestFibre, Cond.selects RX0 yX0_waysOnBusiestFibre yX0_waysOnBusiestFibre, Cond.code yX0_waysOnBusiestFibre cX0_waysOnBusiestFibre 5 (some .int), Cond.methodLink RX0 30 Lib.Math.max.name, Cond.methodLink RX0 26 yX0_canPaint, Cond.instanceMethod yX0_canPaint, Cond.selects RX0 yX0_canPaint yX0_canPaint, Cond.code yX0_canPaint cX0_canPaint 9 (some .boolean), Cond.methodLink RX0 36 yX0_mostBarred, Cond.instanceMethod yX0_mostBarred, Cond.selects RX0 yX0_mostBarred yX0_mostBarred, Cond.code yX0_mostBarred cX0_mostBarred 8 (some .int), Cond.methodLink RL 162 yX6_wavelengthsNeeded, Cond.instanceMethod yX6_wavelengthsNeeded, Cond.selects RX6 yX6_wavelengthsNeeded yX6_wavelengthsNeeded, Cond.code yX6_wavelengthsNeeded cX6_wavelengthsNeeded 5 (some .int), Cond.methodLink RX6 240 yX6_laysCrossed, Cond.instanceMethod yX6_laysCrossed, Cond.selects RX6 yX6_laysCrossed yX6_laysCrossed]
def wsL_law0_r34 : List Cond := [Cond.code yX6_laysCrossed cX6_laysCrossed 4 (some .int), Cond.methodLink RX6 237 yX6_fibresOf, Cond.instanceMethod yX6_fibresOf, Cond.selects RX6 yX6_fibresOf yX6_fibresOf, Cond.code yX6_fibresOf cX6_fibresOf 4 (some .int), Cond.methodLink RX6 243 yX6_isApart, Cond.instanceMethod yX6_isApart, Cond.selects RX6 yX6_isApart yX6_isApart, Cond.code yX6_isApart cX6_isApart 4 (some .boolean)]
def wsL_law0 : List Cond := (wsL_law0_r1 ++ (wsL_law0_r2 ++ (wsL_law0_r3 ++ (wsL_law0_r4 ++ (wsL_law0_r5 ++ (wsL_law0_r6 ++ (wsL_law0_r7 ++ (wsL_law0_r8 ++ (wsL_law0_r9 ++ (wsL_law0_r10 ++ (wsL_law0_r11 ++ (wsL_law0_r12 ++ (wsL_law0_r13 ++ (wsL_law0_r14 ++ (wsL_law0_r15 ++ (wsL_law0_r16 ++ (wsL_law0_r17 ++ (wsL_law0_r18 ++ (wsL_law0_r19 ++ (wsL_law0_r20 ++ (wsL_law0_r21 ++ (wsL_law0_r22 ++ (wsL_law0_r23 ++ (wsL_law0_r24 ++ (wsL_law0_r25 ++ (wsL_law0_r26 ++ (wsL_law0_r27 ++ (wsL_law0_r28 ++ (wsL_law0_r29 ++ (wsL_law0_r30 ++ (wsL_law0_r31 ++ (wsL_law0_r32 ++ (wsL_law0_r33 ++ wsL_law0_r34))))))))))))))))))))))))))))))))) ++ wsX50 ++ wsX60 ++ wsX20 ++ wsX40 ++ wsX00 ++ wsX10 ++ wsX30 ++ ([] : List Cond)
def wsL_law : List Cond := wsL_law0 ++ (vx_atS RX5 52 "java/lang/IllegalArgumentException" ["java/lang/RuntimeException", "java/lang/Exception"]).filter goodWord ++ (vx_atS RX5 80 "java/lang/IllegalStateException" ["java/lang/RuntimeException", "java/lang/Exception"]).filter goodWord ++ (vx_atS RX5 202 "java/lang/IndexOutOfBoundsException" ["java/lang/RuntimeException", "java/lang/Exception"]).filter goodWord
abbrev vwCl : List vw_C := [(RX0, TX0, 3), (RX1, TX1, 7), (RX2, TX2, 8), (RX3, TX3, 5), (RX4, TX4, 13), (RX5, TX5, 8), (RX6, TX6, 28)]
end
section
/-! THE STATE: what each cell of the system and of the reference holds, by the cell's place behind b0 and the slot's place in the cell: ints (booleans too), longs, references (by place; none: null), doubles -/
abbrev St : Type := (Nat → Nat → Int32) × (Nat → Nat → Int64) × (Nat → Nat → Option Nat) × (Nat → Nat → UInt64)
def gI (S : St) (k j : Nat) : Int32 := S.1 k j
def gJ (S : St) (k j : Nat) : Int64 := S.2.1 k j
def gR (S : St) (k j : Nat) : Option Nat := S.2.2.1 k j
def gD (S : St) (k j : Nat) : UInt64 := S.2.2.2 k j
def sI (S : St) (k j : Nat) (v : Int32) : St := (fun a b => if a = k ∧ b = j then v else S.1 a b, S.2)
def sJ (S : St) (k j : Nat) (v : Int64) : St := (S.1, fun a b => if a = k ∧ b = j then v else S.2.1 a b, S.2.2)
def sR (S : St) (k j : Nat) (v : Option Nat) : St := (S.1, S.2.1, fun a b => if a = k ∧ b = j then v else S.2.2.1 a b, S.2.2.2)
def sD (S : St) (k j : Nat) (v : UInt64) : St := (S.1, S.2.1, S.2.2.1, fun a b => if a = k ∧ b = j then v else S.2.2.2 a b)
theorem gI_sI (S : St) (k j : Nat) (v : Int32) (a b : Nat) : gI (sI S k j v) a b = if a = k ∧ b = j then v else gI S a b := rfl
theorem gJ_sI (S : St) (k j : Nat) (v : Int32) (a b : Nat) : gJ (sI S k j v) a b = gJ S a b := rfl
theorem gR_sI (S : St) (k j : Nat) (v : Int32) (a b : Nat) : gR (sI S k j v) a b = gR S a b := rfl
theorem gD_sI (S : St) (k j : Nat) (v : Int32) (a b : Nat) : gD (sI S k j v) a b = gD S a b := rfl
theorem gI_sJ (S : St) (k j : Nat) (v : Int64) (a b : Nat) : gI (sJ S k j v) a b = gI S a b := rfl
theorem gJ_sJ (S : St) (k j : Nat) (v : Int64) (a b : Nat) : gJ (sJ S k j v) a b = if a = k ∧ b = j then v else gJ S a b := rfl
theorem gR_sJ (S : St) (k j : Nat) (v : Int64) (a b : Nat) : gR (sJ S k j v) a b = gR S a b := rfl
theorem gD_sJ (S : St) (k j : Nat) (v : Int64) (a b : Nat) : gD (sJ S k j v) a b = gD S a b := rfl
theorem gI_sR (S : St) (k j : Nat) (v : Option Nat) (a b : Nat) : gI (sR S k j v) a b = gI S a b := rfl
theorem gJ_sR (S : St) (k j : Nat) (v : Option Nat) (a b : Nat) : gJ (sR S k j v) a b = gJ S a b := rfl
theorem gR_sR (S : St) (k j : Nat) (v : Option Nat) (a b : Nat) : gR (sR S k j v) a b = if a = k ∧ b = j then v else gR S a b := rfl
theorem gD_sR (S : St) (k j : Nat) (v : Option Nat) (a b : Nat) : gD (sR S k j v) a b = gD S a b := rfl
theorem gI_sD (S : St) (k j : Nat) (v : UInt64) (a b : Nat) : gI (sD S k j v) a b = gI S a b := rfl
theorem gJ_sD (S : St) (k j : Nat) (v : UInt64) (a b : Nat) : gJ (sD S k j v) a b = gJ S a b := rfl
theorem gR_sD (S : St) (k j : Nat) (v : UInt64) (a b : Nat) : gR (sD S k j v) a b = gR S a b := rfl
theorem gD_sD (S : St) (k j : Nat) (v : UInt64) (a b : Nat) : gD (sD S k j v) a b = if a = k ∧ b = j then v else gD S a b := rfl
/-- a truth value as the machine holds it -/
def b2i (b : Bool) : Int32 := if b = true then 1 else 0
theorem b2i_t : b2i true = 1 := rfl
theorem b2i_f : b2i false = 0 := rfl
theorem b2i_z {b : Bool} (h : b2i b = 0) : ¬ b = true := by cases b <;> simp_all [b2i]
theorem b2i_n {b : Bool} (h : ¬ b2i b = 0) : b = true := by cases b <;> simp_all [b2i]
theorem b2i_nar (b : Bool) : narrow .boolean (.int (b2i b)) = .int (b2i b) := by cases b <;> rfl
theorem b2i_vnar (b : Bool) : vp_nar .boolean (b2i b) = b2i b := by cases b <;> rfl
/-- the number of cells of the two systems and of the law's own two arrays -/
abbrev NALL : Nat := 392
/-- a cell's kind by its place: 0 to 6 an object of that class (places in vwCl), 7 int[], 8 boolean[], 9 Light[], 10 Way[], 11 int[][], 12 long[], 13 double[] -/
def kd (k : Nat) : Nat :=
  if k = 0 then 5 else if k = 1 then 2 else if k = 5 then 4 else if k = 9 then 8 else if k = 10 then 11 else if k = 18 then 10
  else if k < 18 then 7 else if k < 181 then 3 else if k = 181 then 0 else if k < 184 then 7 else if k = 184 then 9
  else if k < 365 then (if (k - 185) % 3 = 0 then 1 else 3) else if k = 365 then 9 else if k = 366 then 7
  else if k = 367 then 6 else if k = 368 then 8 else if k = 372 then 8 else if k < 390 then 7 else if k = 390 then 12 else if k = 391 then 13 else 99
/-- an array's length by its place -/
def ln (k : Nat) : Nat :=
  if k < 7 then 14 else if k < 18 then 7 else if k = 18 then 162 else if k < 184 then 12 else if k < 367 then 60
  else if k = 368 then 8 else if k < 373 then 14 else if k = 373 then 112 else if k < 379 then 60 else if k = 379 then 1200
  else if k < 382 then 26 else if k < 386 then 10 else if k = 386 then 56 else if k < 389 then 12 else if k = 389 then 4096 else 1
/-- the references that never change behind the constructors -/
def fx (k j : Nat) : Option Nat :=
  if k = 0 then (if j = 0 then some 1 else if j = 1 then some 5 else if j = 2 then some 181 else if j = 3 then some 184 else if j = 5 then some 365 else if j = 6 then some 366 else none)
  else if k = 1 then (if j = 5 then some 2 else if j = 6 then some 3 else if j = 7 then some 4 else none)
  else if k = 5 then (if j = 2 then some 6 else if j = 3 then some 1 else if j = 7 then some 7 else if j = 8 then some 8 else if j = 9 then some 9 else if j = 10 then some 10 else if j = 11 then some 18 else none)
  else if k = 10 then (if j < 7 then some (11 + j) else none)
  else if k = 18 then (if j < 162 then some (19 + j) else none)
  else if k = 181 then (if j = 0 then some 182 else if j = 1 then some 183 else none)
  else if k = 184 then (if j < 60 then some (185 + 3 * j) else none)
  else if k = 367 then (if 3 < j ∧ j < 10 then some (364 + j) else if 10 < j ∧ j < 13 then some (363 + j) else if 13 < j ∧ j < 28 then some (362 + j) else none)
  else if kd k = 1 then (if j = 1 then some (k + 1) else if j = 2 then some (k + 2) else none)
  else none
theorem kd_N {k n : Nat} (h : kd k = n) (hn : n < 50) : k < NALL := by
  rcases Nat.lt_or_ge k 392 with q | q
  · exact q
  · exfalso
    subst h
    unfold kd at hn
    repeat rw [if_neg (by omega)] at hn
    omega
theorem kd_La : ∀ k, k < 392 → kd k = 1 → 185 ≤ k ∧ k < 365 ∧ (k - 185) % 3 = 0 := by decide +kernel
theorem kd_L {k : Nat} (h : kd k = 1) : ∃ i, i < 60 ∧ k = 185 + 3 * i := by
  obtain ⟨h1, h2, h3⟩ := kd_La k (kd_N h (by omega)) h
  exact ⟨(k - 185) / 3, by omega, by omega⟩
theorem kd_Li' : ∀ i, i < 60 → kd (185 + 3 * i) = 1 := by decide +kernel
theorem kd_Li {i : Nat} (h : i < 60) : kd (185 + 3 * i) = 1 := kd_Li' i h
theorem kd_L1' : ∀ i, i < 60 → kd (185 + 3 * i + 1) = 3 := by decide +kernel
theorem kd_L2' : ∀ i, i < 60 → kd (185 + 3 * i + 2) = 3 := by decide +kernel
theorem kd_L1 {k : Nat} (h : kd k = 1) : kd (k + 1) = 3 := by
  obtain ⟨i, hi, rfl⟩ := kd_L h
  exact kd_L1' i hi
theorem kd_L2 {k : Nat} (h : kd k = 1) : kd (k + 2) = 3 := by
  obtain ⟨i, hi, rfl⟩ := kd_L h
  exact kd_L2' i hi
theorem kd_W' : ∀ j, j < 162 → kd (19 + j) = 3 := by decide +kernel
theorem kd_W {j : Nat} (h : j < 162) : kd (19 + j) = 3 := kd_W' j h
theorem kd_R' : ∀ j, j < 7 → kd (11 + j) = 7 := by decide +kernel
theorem kd_R {j : Nat} (h : j < 7) : kd (11 + j) = 7 := kd_R' j h
theorem ln_R' : ∀ j, j < 7 → ln (11 + j) = 7 := by decide +kernel
theorem ln_R {j : Nat} (h : j < 7) : ln (11 + j) = 7 := ln_R' j h
theorem fx_L1 {k : Nat} (h : kd k = 1) : fx k 1 = some (k + 1) := by
  obtain ⟨i, hi, rfl⟩ := kd_L h
  unfold fx
  repeat rw [if_neg (by omega)]
  rw [if_pos h, if_pos rfl]
theorem fx_L2 {k : Nat} (h : kd k = 1) : fx k 2 = some (k + 2) := by
  obtain ⟨i, hi, rfl⟩ := kd_L h
  unfold fx
  repeat rw [if_neg (by omega)]
  rw [if_pos h, if_neg (by omega), if_pos rfl]
theorem fx_184 {j : Nat} (h : j < 60) : fx 184 j = some (185 + 3 * j) := by
  unfold fx
  simp [h]
theorem fx_18 {j : Nat} (h : j < 162) : fx 18 j = some (19 + j) := by
  unfold fx
  simp [h]
theorem fx_10 {j : Nat} (h : j < 7) : fx 10 j = some (11 + j) := by
  unfold fx
  simp [h]
/-- what holds of the references at all times behind the constructors: the fixed ones are as fx has them, the others lead to cells of their kinds -/
def Fx (S : St) : Prop := (∀ k j q, fx k j = some q → gR S k j = some q) ∧ (∀ q, gR S 5 0 = some q → kd q = 3) ∧ (∀ q, gR S 5 1 = some q → kd q = 3) ∧ (∀ j q, gR S 365 j = some q → kd q = 1)
theorem Fx.sI {S : St} (h : Fx S) (k j : Nat) (v : Int32) : Fx (sI S k j v) := h
theorem Fx.sJ {S : St} (h : Fx S) (k j : Nat) (v : Int64) : Fx (sJ S k j v) := h
theorem Fx.sD {S : St} (h : Fx S) (k j : Nat) (v : UInt64) : Fx (sD S k j v) := h
theorem Fx.f0 {S : St} (h : Fx S) {v : Option Nat} (hv : ∀ q, v = some q → kd q = 3) : Fx (sR S 5 0 v) := by
  refine ⟨fun k j q hq => ?_, fun q hq => ?_, fun q hq => ?_, fun j q hq => ?_⟩
  · rw [gR_sR]
    by_cases e : k = 5 ∧ j = 0
    · rw [e.1, e.2] at hq; cases hq
    · rw [if_neg e]; exact h.1 k j q hq
  · rw [gR_sR, if_pos ⟨rfl, rfl⟩] at hq; exact hv q hq
  · rw [gR_sR, if_neg (by omega)] at hq; exact h.2.2.1 q hq
  · rw [gR_sR, if_neg (by omega)] at hq; exact h.2.2.2 j q hq
theorem Fx.f1 {S : St} (h : Fx S) {v : Option Nat} (hv : ∀ q, v = some q → kd q = 3) : Fx (sR S 5 1 v) := by
  refine ⟨fun k j q hq => ?_, fun q hq => ?_, fun q hq => ?_, fun j q hq => ?_⟩
  · rw [gR_sR]
    by_cases e : k = 5 ∧ j = 1
    · rw [e.1, e.2] at hq; cases hq
    · rw [if_neg e]; exact h.1 k j q hq
  · rw [gR_sR, if_neg (by omega)] at hq; exact h.2.1 q hq
  · rw [gR_sR, if_pos ⟨rfl, rfl⟩] at hq; exact hv q hq
  · rw [gR_sR, if_neg (by omega)] at hq; exact h.2.2.2 j q hq
theorem Fx.f365 {S : St} (h : Fx S) (i : Nat) {v : Option Nat} (hv : ∀ q, v = some q → kd q = 1) : Fx (sR S 365 i v) := by
  refine ⟨fun k j q hq => ?_, fun q hq => ?_, fun q hq => ?_, fun j q hq => ?_⟩
  · rw [gR_sR]
    by_cases e : k = 365 ∧ j = i
    · rw [e.1] at hq; cases hq
    · rw [if_neg e]; exact h.1 k j q hq
  · rw [gR_sR, if_neg (by omega)] at hq; exact h.2.1 q hq
  · rw [gR_sR, if_neg (by omega)] at hq; exact h.2.2.1 q hq
  · rw [gR_sR] at hq
    by_cases e : j = i
    · rw [if_pos ⟨rfl, e⟩] at hq; exact hv q hq
    · rw [if_neg (by omega)] at hq; exact h.2.2.2 j q hq
def rf (b0 : Nat) (r : Option Nat) : Value := va_rf (r.map (fun k => b0 + k))
theorem rf_some {b0 : Nat} {r : Option Nat} {q : Nat} (h : r = some q) : rf b0 r = .ref (b0 + q) := by rw [h]; rfl
theorem rf_none {b0 : Nat} {r : Option Nat} (h : r = none) : rf b0 r = .null := by rw [h]; rfl
theorem rf_or (b0 : Nat) (r : Option Nat) : rf b0 r = .null ∨ ∃ a, rf b0 r = .ref a := va_rf_or _

/-- a cell by its kind -/
def cellF (cy : Nat → ClassId) (b0 k : Nat) (fI : Nat → Int32) (fJ : Nat → Int64) (fR : Nat → Option Nat) (fD : Nat → UInt64) : va_E :=
  if kd k = 0 then .inr (0, [rf b0 (fR 0), rf b0 (fR 1), .int (fI 2)])
  else if kd k = 1 then .inr (1, [.int (fI 0), rf b0 (fR 1), rf b0 (fR 2), .int (fI 3), .int (fI 4), .int (fI 5), .int (fI 6)])
  else if kd k = 2 then .inr (2, [.int (fI 0), .int (fI 1), .int (fI 2), .int (fI 3), .int (fI 4), rf b0 (fR 5), rf b0 (fR 6), rf b0 (fR 7)])
  else if kd k = 3 then .inr (3, [.int (fI 0), .int (fI 1), .int (fI 2), .int (fI 3), .long (fJ 4)])
  else if kd k = 4 then .inr (4, [rf b0 (fR 0), rf b0 (fR 1), rf b0 (fR 2), rf b0 (fR 3), .int (fI 4), .int (fI 5), .int (fI 6), rf b0 (fR 7), rf b0 (fR 8), rf b0 (fR 9), rf b0 (fR 10), rf b0 (fR 11), .int (fI 12)])
  else if kd k = 5 then .inr (5, [rf b0 (fR 0), rf b0 (fR 1), rf b0 (fR 2), rf b0 (fR 3), .int (fI 4), rf b0 (fR 5), rf b0 (fR 6), .int (fI 7)])
  else if kd k = 6 then .inr (6, [.int (fI 0), .int (fI 1), .int (fI 2), .int (fI 3), rf b0 (fR 4), rf b0 (fR 5), rf b0 (fR 6), rf b0 (fR 7), rf b0 (fR 8), rf b0 (fR 9), .int (fI 10), rf b0 (fR 11), rf b0 (fR 12), .int (fI 13), rf b0 (fR 14), rf b0 (fR 15), rf b0 (fR 16), rf b0 (fR 17), rf b0 (fR 18), rf b0 (fR 19), rf b0 (fR 20), rf b0 (fR 21), rf b0 (fR 22), rf b0 (fR 23), rf b0 (fR 24), rf b0 (fR 25), rf b0 (fR 26), rf b0 (fR 27)])
  else if kd k = 7 then .inl (cy 0, ln k, .inl fI)
  else if kd k = 8 then .inl (cy 1, ln k, .inl fI)
  else if kd k = 9 then .inl (cy 2, ln k, .inr (.inr (.inr (.inr (fun j => (fR j).map (fun q => b0 + q))))))
  else if kd k = 10 then .inl (cy 3, ln k, .inr (.inr (.inr (.inr (fun j => (fR j).map (fun q => b0 + q))))))
  else if kd k = 11 then .inl (cy 4, ln k, .inr (.inr (.inr (.inr (fun j => (fR j).map (fun q => b0 + q))))))
  else if kd k = 12 then .inl (cy 5, ln k, .inr (.inl fJ))
  else .inl (cy 6, ln k, .inr (.inr (.inr (.inl fD))))
def cellC (cy : Nat → ClassId) (b0 : Nat) (S : St) (k : Nat) : va_E := cellF cy b0 k (gI S k) (gJ S k) (gR S k) (gD S k)
abbrev tysC (cy : Nat → ClassId) : List (ClassId × FieldType) := [(cy 0, .int), (cy 1, .boolean), (cy 2, .object RX1), (cy 3, .object RX3), (cy 4, .array .int), (cy 5, .long), (cy 6, .double)]
def HP (D : va_G) (cy : Nat → ClassId) (b0 N : Nat) (S : St) (H : Heap) : Prop := ∀ k, k < N → va_at D vwCl (b0 + k, cellC cy b0 S k) H
abbrev AA (b0 : Nat) : Nat → Prop := fun q => b0 ≤ q
theorem cell_cong {cy : Nat → ClassId} {b0 : Nat} {S S' : St} {k : Nat} (h1 : ∀ j, gI S' k j = gI S k j) (h2 : ∀ j, gJ S' k j = gJ S k j) (h3 : ∀ j, gR S' k j = gR S k j) (h4 : ∀ j, gD S' k j = gD S k j) : cellC cy b0 S' k = cellC cy b0 S k := by
  show cellF cy b0 k _ _ _ _ = cellF cy b0 k _ _ _ _
  rw [funext h1, funext h2, funext h3, funext h4]
theorem cell_sI {cy : Nat → ClassId} {b0 : Nat} {S : St} {k j : Nat} {v : Int32} : ∀ k', k' ≠ k → cellC cy b0 (sI S k j v) k' = cellC cy b0 S k' := fun k' h => cell_cong (fun i => by rw [gI_sI, if_neg (fun q => h q.1)]) (fun _ => rfl) (fun _ => rfl) (fun _ => rfl)
theorem cell_sJ {cy : Nat → ClassId} {b0 : Nat} {S : St} {k j : Nat} {v : Int64} : ∀ k', k' ≠ k → cellC cy b0 (sJ S k j v) k' = cellC cy b0 S k' := fun k' h => cell_cong (fun _ => rfl) (fun i => by rw [gJ_sJ, if_neg (fun q => h q.1)]) (fun _ => rfl) (fun _ => rfl)
theorem cell_sR {cy : Nat → ClassId} {b0 : Nat} {S : St} {k j : Nat} {v : Option Nat} : ∀ k', k' ≠ k → cellC cy b0 (sR S k j v) k' = cellC cy b0 S k' := fun k' h => cell_cong (fun _ => rfl) (fun _ => rfl) (fun i => by rw [gR_sR, if_neg (fun q => h q.1)]) (fun _ => rfl)
theorem cell_sD {cy : Nat → ClassId} {b0 : Nat} {S : St} {k j : Nat} {v : UInt64} : ∀ k', k' ≠ k → cellC cy b0 (sD S k j v) k' = cellC cy b0 S k' := fun k' h => cell_cong (fun _ => rfl) (fun _ => rfl) (fun _ => rfl) (fun i => by rw [gD_sD, if_neg (fun q => h q.1)])
theorem cell_0 {cy : Nat → ClassId} {b0 : Nat} {S : St} {k : Nat} (h : kd k = 0) : cellC cy b0 S k = .inr (0, [rf b0 (gR S k 0), rf b0 (gR S k 1), .int (gI S k 2)]) := by
  unfold cellC cellF
  rw [if_pos h]
theorem cell_1 {cy : Nat → ClassId} {b0 : Nat} {S : St} {k : Nat} (h : kd k = 1) : cellC cy b0 S k = .inr (1, [.int (gI S k 0), rf b0 (gR S k 1), rf b0 (gR S k 2), .int (gI S k 3), .int (gI S k 4), .int (gI S k 5), .int (gI S k 6)]) := by
  unfold cellC cellF
  rw [if_neg (by rw [h]; omega)]
  rw [if_pos h]
theorem cell_2 {cy : Nat → ClassId} {b0 : Nat} {S : St} {k : Nat} (h : kd k = 2) : cellC cy b0 S k = .inr (2, [.int (gI S k 0), .int (gI S k 1), .int (gI S k 2), .int (gI S k 3), .int (gI S k 4), rf b0 (gR S k 5), rf b0 (gR S k 6), rf b0 (gR S k 7)]) := by
  unfold cellC cellF
  rw [if_neg (by rw [h]; omega)]
  rw [if_neg (by rw [h]; omega)]
  rw [if_pos h]
theorem cell_3 {cy : Nat → ClassId} {b0 : Nat} {S : St} {k : Nat} (h : kd k = 3) : cellC cy b0 S k = .inr (3, [.int (gI S k 0), .int (gI S k 1), .int (gI S k 2), .int (gI S k 3), .long (gJ S k 4)]) := by
  unfold cellC cellF
  rw [if_neg (by rw [h]; omega)]
  rw [if_neg (by rw [h]; omega)]
  rw [if_neg (by rw [h]; omega)]
  rw [if_pos h]
theorem cell_4 {cy : Nat → ClassId} {b0 : Nat} {S : St} {k : Nat} (h : kd k = 4) : cellC cy b0 S k = .inr (4, [rf b0 (gR S k 0), rf b0 (gR S k 1), rf b0 (gR S k 2), rf b0 (gR S k 3), .int (gI S k 4), .int (gI S k 5), .int (gI S k 6), rf b0 (gR S k 7), rf b0 (gR S k 8), rf b0 (gR S k 9), rf b0 (gR S k 10), rf b0 (gR S k 11), .int (gI S k 12)]) := by
  unfold cellC cellF
  rw [if_neg (by rw [h]; omega)]
  rw [if_neg (by rw [h]; omega)]
  rw [if_neg (by rw [h]; omega)]
  rw [if_neg (by rw [h]; omega)]
  rw [if_pos h]
theorem cell_5 {cy : Nat → ClassId} {b0 : Nat} {S : St} {k : Nat} (h : kd k = 5) : cellC cy b0 S k = .inr (5, [rf b0 (gR S k 0), rf b0 (gR S k 1), rf b0 (gR S k 2), rf b0 (gR S k 3), .int (gI S k 4), rf b0 (gR S k 5), rf b0 (gR S k 6), .int (gI S k 7)]) := by
  unfold cellC cellF
  rw [if_neg (by rw [h]; omega)]
  rw [if_neg (by rw [h]; omega)]
  rw [if_neg (by rw [h]; omega)]
  rw [if_neg (by rw [h]; omega)]
  rw [if_neg (by rw [h]; omega)]
  rw [if_pos h]
theorem cell_6 {cy : Nat → ClassId} {b0 : Nat} {S : St} {k : Nat} (h : kd k = 6) : cellC cy b0 S k = .inr (6, [.int (gI S k 0), .int (gI S k 1), .int (gI S k 2), .int (gI S k 3), rf b0 (gR S k 4), rf b0 (gR S k 5), rf b0 (gR S k 6), rf b0 (gR S k 7), rf b0 (gR S k 8), rf b0 (gR S k 9), .int (gI S k 10), rf b0 (gR S k 11), rf b0 (gR S k 12), .int (gI S k 13), rf b0 (gR S k 14), rf b0 (gR S k 15), rf b0 (gR S k 16), rf b0 (gR S k 17), rf b0 (gR S k 18), rf b0 (gR S k 19), rf b0 (gR S k 20), rf b0 (gR S k 21), rf b0 (gR S k 22), rf b0 (gR S k 23), rf b0 (gR S k 24), rf b0 (gR S k 25), rf b0 (gR S k 26), rf b0 (gR S k 27)]) := by
  unfold cellC cellF
  rw [if_neg (by rw [h]; omega)]
  rw [if_neg (by rw [h]; omega)]
  rw [if_neg (by rw [h]; omega)]
  rw [if_neg (by rw [h]; omega)]
  rw [if_neg (by rw [h]; omega)]
  rw [if_neg (by rw [h]; omega)]
  rw [if_pos h]
theorem cell_7 {cy : Nat → ClassId} {b0 : Nat} {S : St} {k : Nat} (h : kd k = 7) : cellC cy b0 S k = .inl (cy 0, ln k, .inl (gI S k)) := by
  unfold cellC cellF
  rw [if_neg (by rw [h]; omega)]
  rw [if_neg (by rw [h]; omega)]
  rw [if_neg (by rw [h]; omega)]
  rw [if_neg (by rw [h]; omega)]
  rw [if_neg (by rw [h]; omega)]
  rw [if_neg (by rw [h]; omega)]
  rw [if_neg (by rw [h]; omega)]
  rw [if_pos h]
theorem cell_8 {cy : Nat → ClassId} {b0 : Nat} {S : St} {k : Nat} (h : kd k = 8) : cellC cy b0 S k = .inl (cy 1, ln k, .inl (gI S k)) := by
  unfold cellC cellF
  rw [if_neg (by rw [h]; omega)]
  rw [if_neg (by rw [h]; omega)]
  rw [if_neg (by rw [h]; omega)]
  rw [if_neg (by rw [h]; omega)]
  rw [if_neg (by rw [h]; omega)]
  rw [if_neg (by rw [h]; omega)]
  rw [if_neg (by rw [h]; omega)]
  rw [if_neg (by rw [h]; omega)]
  rw [if_pos h]
theorem cell_9 {cy : Nat → ClassId} {b0 : Nat} {S : St} {k : Nat} (h : kd k = 9) : cellC cy b0 S k = .inl (cy 2, ln k, .inr (.inr (.inr (.inr (fun j => (gR S k j).map (fun q => b0 + q)))))) := by
  unfold cellC cellF
  rw [if_neg (by rw [h]; omega)]
  rw [if_neg (by rw [h]; omega)]
  rw [if_neg (by rw [h]; omega)]
  rw [if_neg (by rw [h]; omega)]
  rw [if_neg (by rw [h]; omega)]
  rw [if_neg (by rw [h]; omega)]
  rw [if_neg (by rw [h]; omega)]
  rw [if_neg (by rw [h]; omega)]
  rw [if_neg (by rw [h]; omega)]
  rw [if_pos h]
theorem cell_10 {cy : Nat → ClassId} {b0 : Nat} {S : St} {k : Nat} (h : kd k = 10) : cellC cy b0 S k = .inl (cy 3, ln k, .inr (.inr (.inr (.inr (fun j => (gR S k j).map (fun q => b0 + q)))))) := by
  unfold cellC cellF
  rw [if_neg (by rw [h]; omega)]
  rw [if_neg (by rw [h]; omega)]
  rw [if_neg (by rw [h]; omega)]
  rw [if_neg (by rw [h]; omega)]
  rw [if_neg (by rw [h]; omega)]
  rw [if_neg (by rw [h]; omega)]
  rw [if_neg (by rw [h]; omega)]
  rw [if_neg (by rw [h]; omega)]
  rw [if_neg (by rw [h]; omega)]
  rw [if_neg (by rw [h]; omega)]
  rw [if_pos h]
theorem cell_11 {cy : Nat → ClassId} {b0 : Nat} {S : St} {k : Nat} (h : kd k = 11) : cellC cy b0 S k = .inl (cy 4, ln k, .inr (.inr (.inr (.inr (fun j => (gR S k j).map (fun q => b0 + q)))))) := by
  unfold cellC cellF
  rw [if_neg (by rw [h]; omega)]
  rw [if_neg (by rw [h]; omega)]
  rw [if_neg (by rw [h]; omega)]
  rw [if_neg (by rw [h]; omega)]
  rw [if_neg (by rw [h]; omega)]
  rw [if_neg (by rw [h]; omega)]
  rw [if_neg (by rw [h]; omega)]
  rw [if_neg (by rw [h]; omega)]
  rw [if_neg (by rw [h]; omega)]
  rw [if_neg (by rw [h]; omega)]
  rw [if_neg (by rw [h]; omega)]
  rw [if_pos h]
theorem cell_12 {cy : Nat → ClassId} {b0 : Nat} {S : St} {k : Nat} (h : kd k = 12) : cellC cy b0 S k = .inl (cy 5, ln k, .inr (.inl (gJ S k))) := by
  unfold cellC cellF
  rw [if_neg (by rw [h]; omega)]
  rw [if_neg (by rw [h]; omega)]
  rw [if_neg (by rw [h]; omega)]
  rw [if_neg (by rw [h]; omega)]
  rw [if_neg (by rw [h]; omega)]
  rw [if_neg (by rw [h]; omega)]
  rw [if_neg (by rw [h]; omega)]
  rw [if_neg (by rw [h]; omega)]
  rw [if_neg (by rw [h]; omega)]
  rw [if_neg (by rw [h]; omega)]
  rw [if_neg (by rw [h]; omega)]
  rw [if_neg (by rw [h]; omega)]
  rw [if_pos h]
theorem cell_13 {cy : Nat → ClassId} {b0 : Nat} {S : St} {k : Nat} (h : kd k = 13) : cellC cy b0 S k = .inl (cy 6, ln k, .inr (.inr (.inr (.inl (gD S k))))) := by
  unfold cellC cellF
  rw [if_neg (by rw [h]; omega)]
  rw [if_neg (by rw [h]; omega)]
  rw [if_neg (by rw [h]; omega)]
  rw [if_neg (by rw [h]; omega)]
  rw [if_neg (by rw [h]; omega)]
  rw [if_neg (by rw [h]; omega)]
  rw [if_neg (by rw [h]; omega)]
  rw [if_neg (by rw [h]; omega)]
  rw [if_neg (by rw [h]; omega)]
  rw [if_neg (by rw [h]; omega)]
  rw [if_neg (by rw [h]; omega)]
  rw [if_neg (by rw [h]; omega)]
  rw [if_neg (by rw [h]; omega)]
theorem HP.one {D : va_G} {cy : Nat → ClassId} {b0 N : Nat} {S : St} {H : Heap} (hP : HP D cy b0 N S H) {k : Nat} (hk : k < N) {e : va_E} (he : cellC cy b0 S k = e) : va_P D vwCl [(b0 + k, e)] H := by
  intro i q hi
  have h1 := hP k hk
  rw [he] at h1
  match i, hi with
  | 0, hi => cases hi; exact h1
  | i + 1, hi => simp at hi
theorem HP.upd {D : va_G} {cy : Nat → ClassId} {b0 N : Nat} {S S' : St} {H H1 : Heap} {k : Nat} (hP : HP D cy b0 N S H) (he : va_at D vwCl (b0 + k, cellC cy b0 S' k) H1) (ho : ∀ q, q ≠ b0 + k → H1[q]? = H[q]?) (hc : ∀ k', k' ≠ k → cellC cy b0 S' k' = cellC cy b0 S k') : HP D cy b0 N S' H1 := by
  intro k' hk'
  by_cases h : k' = k
  · rw [h]; exact he
  · rw [hc k' h]
    exact (hP k' hk').kept (ho _ (by show b0 + k' ≠ b0 + k; omega))
theorem HP.kept {D : va_G} {cy : Nat → ClassId} {b0 N : Nat} {S : St} {H H1 : Heap} (hP : HP D cy b0 N S H) (ho : ∀ q : Nat, q < H.size → H1[q]? = H[q]?) : HP D cy b0 N S H1 := fun k hk => (hP k hk).kept (ho _ (hP k hk).lt)
theorem HP.less {D : va_G} {cy : Nat → ClassId} {b0 N N' : Nat} {S : St} {H : Heap} (hP : HP D cy b0 N S H) (h : N' ≤ N) : HP D cy b0 N' S H := fun k hk => hP k (Nat.lt_of_lt_of_le hk h)
section QR
variable {p : Program} {l : Launch} {e : Env} {R : Room} {s : State} {m : MethodId} {args : Array Value} {below : List Frame} {meth : Method} {c : Code} {H : Heap} {locs : List Loc} {cells slots : Nat} {Q : State → Prop}
variable {cc : ByteArray} {pc : Nat} {ls : Array Slot} {rest : List Value} {D : va_G} {cy : Nat → ClassId} {b0 N : Nat} {S : St} {A : Nat → Prop} {H0 : Heap}
theorem q_get (hexec : p.tables.exec = Jvm.exec) (hb : c.code = cc) {own : String} {r : vw_C} {ci index : Nat} {Ts : List Cond} (hts : ∀ w ∈ Ts, w.before args s = true) (hin : ∀ w ∈ u_ws r.1 r.2.1 r.2.2, w ∈ Ts) (hown : s.vm.findClass own = some m.cls) (hK : va_K D vwCl (tysC cy) s) (hP : HP D cy b0 N S H) {k : Nat} (hkN : k < N) {fs : List Value} (he : cellC cy b0 S k = .inr (ci, fs)) (hc : vwCl[ci]? = some r) (j : Nat) (hj : j < r.2.2) (hlink : (Cond.fieldLink own index (r.2.1 j).1 (r.2.1 j).2.1 (r.2.1 j).2.2.1).before args s = true) {v : Value} (hv : fs[j]? = some v) (hdg : decode cc pc = .ok (.getfield index, 3))
    (kk : W p l e R s m args below meth c H locs cells slots Q (F0 m (pc + 3) ls (v :: rest))) : W p l e R s m args below meth c H locs cells slots Q (F0 m pc ls (.ref (b0 + k) :: rest)) :=
  va_get (C := r.1) (T := r.2.1) (N := r.2.2) hexec hb hts hin hown hK (hP.one hkN he) 0 rfl hc j hj hlink (fun _ h9 => h9) hv hdg kk
theorem q_put (hexec : p.tables.exec = Jvm.exec) (hb : c.code = cc) {own : String} {C : String} {T : u_T} {NF ci index : Nat} {Ts : List Cond} (hts : ∀ w ∈ Ts, w.before args s = true) (hin : ∀ w ∈ u_ws C T NF, w ∈ Ts) (ty0 : Nat → FieldType) (hty : ∀ k, k < NF → parseFieldDescriptor (T k).2.2.1 = some (ty0 k)) (hnm : ∀ a, a < NF → ∀ b, b < NF → a ≠ b → (T a).2.1 ≠ (T b).2.1) (hown : s.vm.findClass own = some m.cls) (hK : va_K D vwCl (tysC cy) s) (hP : HP D cy b0 N S H) (hS0 : va_S (AA b0) H0 H locs) {k : Nat} (hkN : k < N) {fs : List Value} (he : cellC cy b0 S k = .inr (ci, fs)) (hc : vwCl[ci]? = some (C, T, NF)) (j : Nat) (hj : j < NF) (hlink : (Cond.fieldLink own index (T j).1 (T j).2.1 (T j).2.2.1).before args s = true) (hfin : (T j).2.2.2 = false) {ty : FieldType} {v : Value} (hd : parseFieldDescriptor (T j).2.2.1 = some ty) (hn : narrow ty v = v) (hfit : fits ty v = true) (hl : j < fs.length) (S' : St) (he' : cellC cy b0 S' k = .inr (ci, fs.set j v)) (ho : ∀ k', k' ≠ k → cellC cy b0 S' k' = cellC cy b0 S k')
    (hdg : decode cc pc = .ok (.putfield index, 3)) (kk : ∀ (H1 : Heap) (locs1 : List Loc), H1.size = H.size → HP D cy b0 N S' H1 → va_S (AA b0) H0 H1 locs1 → W p l e R s m args below meth c H1 locs1 cells slots Q (F0 m (pc + 3) ls rest)) : W p l e R s m args below meth c H locs cells slots Q (F0 m pc ls (v :: .ref (b0 + k) :: rest)) := by
  have hap := va_apart (own := own) hts hin ty0 hty hnm hK hc
  have hat := hP k hkN
  rw [he] at hat
  obtain ⟨r, h1, cell, q1, q2, q3, q4⟩ := hat
  have hr : r = (C, T, NF) := Option.some.inj (h1.symm.trans hc)
  subst hr
  obtain ⟨hS, hfc, kC, hkC, hkind⟩ := hK.1 ci _ hc
  obtain ⟨cf, kf, fi, f, hi, hsl⟩ := hS j hj
  have hlay := hts _ (hin _ (u_in_lay hj))
  unfold u_lay at hlay
  rw [if_neg (by rw [hfin]; decide)] at hlay
  have hst := (u_facts hfc hkC (u_lays hts hin hj) hi).1
  have h6 := u_store hfc hkC hkind hlay hi hd hn hfit
  refine W.putK hexec hb (f := f) ⟨hown, hlink, ⟨_, _, _, hi⟩, hst⟩ (by rw [q2]; exact h6) q1 q3 (by rw [hsl]; exact k2_hasslot (q4 j hj)) rfl rfl hdg fun H' e1 e2 e3 => ?_
  rw [hsl] at e1 ⊢
  exact kk H' _ e2 (hP.upd (by rw [he']; exact ⟨_, hc, t_OB.to (V := updV (vp_V fs) j v) ⟨_, e1, q2, q3, t_set q4 hap hj v⟩ (fun i _ => vp_updV_set hl v i)⟩) e3 ho) (hS0.put e2 e3 (Nat.le_add_right _ _))
theorem q_putF (hexec : p.tables.exec = Jvm.exec) (hb : c.code = cc) {own : String} {C : String} {T : u_T} {NF ci index : Nat} {Ts : List Cond} (hts : ∀ w ∈ Ts, w.before args s = true) (hin : ∀ w ∈ u_ws C T NF, w ∈ Ts) (ty0 : Nat → FieldType) (hty : ∀ k, k < NF → parseFieldDescriptor (T k).2.2.1 = some (ty0 k)) (hnm : ∀ a, a < NF → ∀ b, b < NF → a ≠ b → (T a).2.1 ≠ (T b).2.1) (hown : s.vm.findClass own = some m.cls) (hK : va_K D vwCl (tysC cy) s) (hP : HP D cy b0 N S H) (hS0 : va_S (AA b0) H0 H locs) {k : Nat} (hkN : k < N) {fs : List Value} (he : cellC cy b0 S k = .inr (ci, fs)) (hc : vwCl[ci]? = some (C, T, NF)) (j : Nat) (hj : j < NF) (hlink : (Cond.fieldLink own index (T j).1 (T j).2.1 (T j).2.2.1).before args s = true) (hfin : (T j).2.2.2 = true) (hin2 : meth.name = "<init>") (hdecl : (T j).1 = own) {ty : FieldType} {v : Value} (hd : parseFieldDescriptor (T j).2.2.1 = some ty) (hn : narrow ty v = v) (hfit : fits ty v = true) (hl : j < fs.length) (S' : St) (he' : cellC cy b0 S' k = .inr (ci, fs.set j v)) (ho : ∀ k', k' ≠ k → cellC cy b0 S' k' = cellC cy b0 S k')
    (hdg : decode cc pc = .ok (.putfield index, 3)) (kk : ∀ (H1 : Heap) (locs1 : List Loc), H1.size = H.size → HP D cy b0 N S' H1 → va_S (AA b0) H0 H1 locs1 → W p l e R s m args below meth c H1 locs1 cells slots Q (F0 m (pc + 3) ls rest)) : W p l e R s m args below meth c H locs cells slots Q (F0 m pc ls (v :: .ref (b0 + k) :: rest)) := by
  have hap := va_apart (own := own) hts hin ty0 hty hnm hK hc
  have hat := hP k hkN
  rw [he] at hat
  obtain ⟨r, h1, cell, q1, q2, q3, q4⟩ := hat
  have hr : r = (C, T, NF) := Option.some.inj (h1.symm.trans hc)
  subst hr
  obtain ⟨hS, hfc, kC, hkC, hkind⟩ := hK.1 ci _ hc
  obtain ⟨cf, kf, fi, f, hi, hsl⟩ := hS j hj
  have hlay := hts _ (hin _ (u_in_lay hj))
  unfold u_lay at hlay
  rw [if_pos hfin] at hlay
  have hst := (u_facts hfc hkC (u_lays hts hin hj) hi).1
  have hcf : m.cls = cf := by
    obtain ⟨_, _, c', _, _, _, -, -, hf', -, -, -, hown2, -⟩ := Cond.laysFinal_spec hlay
    have e1 : c' = cf := by have := hi.symm.trans hf'; simp at this; exact this.1.symm
    rw [hdecl] at hown2
    rw [← e1]; exact Option.some.inj (hown.symm.trans hown2)
  have h6 := u_fits hfc hkC hkind (Or.inr hlay) hi hd hn hfit
  refine W.putFinK hexec hb hown hlink hi hst hcf hin2 (by rw [q2]; exact h6) q1 q3 (by rw [hsl]; exact k2_hasslot (q4 j hj)) rfl rfl hdg fun H' e1 e2 e3 => ?_
  rw [hsl] at e1 ⊢
  exact kk H' _ e2 (hP.upd (by rw [he']; exact ⟨_, hc, t_OB.to (V := updV (vp_V fs) j v) ⟨_, e1, q2, q3, t_set q4 hap hj v⟩ (fun i _ => vp_updV_set hl v i)⟩) e3 ho) (hS0.put e2 e3 (Nat.le_add_right _ _))
theorem q_iald (hexec : p.tables.exec = Jvm.exec) (hb : c.code = cc) (hK : va_K D vwCl (tysC cy) s) (hP : HP D cy b0 N S H) {k : Nat} (hkN : k < N) (hk : kd k = 7) {n : Nat} (hn : ln k = n) {i : Int32} (hin : vp_in i n) (hdg : decode cc pc = .ok (.iaload, 1))
    (kk : W p l e R s m args below meth c H locs cells slots Q (F0 m (pc + 1) ls (.int (gI S k i.toNatClampNeg) :: rest))) : W p l e R s m args below meth c H locs cells slots Q (F0 m pc ls (.int i :: .ref (b0 + k) :: rest)) := by
  subst hn
  exact va_iald hexec hb hK (hP.one hkN (cell_7 hk)) 0 0 rfl rfl hin hdg kk
theorem q_zald (hexec : p.tables.exec = Jvm.exec) (hb : c.code = cc) (hK : va_K D vwCl (tysC cy) s) (hP : HP D cy b0 N S H) {k : Nat} (hkN : k < N) (hk : kd k = 8) {n : Nat} (hn : ln k = n) {i : Int32} (hin : vp_in i n) (hdg : decode cc pc = .ok (.baload, 1))
    (kk : W p l e R s m args below meth c H locs cells slots Q (F0 m (pc + 1) ls (.int (gI S k i.toNatClampNeg) :: rest))) : W p l e R s m args below meth c H locs cells slots Q (F0 m pc ls (.int i :: .ref (b0 + k) :: rest)) := by
  subst hn
  exact va_zald hexec hb hK (hP.one hkN (cell_8 hk)) 0 1 rfl rfl hin hdg kk
theorem q_lald (hexec : p.tables.exec = Jvm.exec) (hb : c.code = cc) (hK : va_K D vwCl (tysC cy) s) (hP : HP D cy b0 N S H) {k : Nat} (hkN : k < N) (hk : kd k = 12) {n : Nat} (hn : ln k = n) {i : Int32} (hin : vp_in i n) (hdg : decode cc pc = .ok (.laload, 1))
    (kk : W p l e R s m args below meth c H locs cells slots Q (F0 m (pc + 1) ls (.long (gJ S k i.toNatClampNeg) :: rest))) : W p l e R s m args below meth c H locs cells slots Q (F0 m pc ls (.int i :: .ref (b0 + k) :: rest)) := by
  subst hn
  exact va_lald hexec hb hK (hP.one hkN (cell_12 hk)) 0 5 rfl rfl hin hdg kk
theorem q_dald (hexec : p.tables.exec = Jvm.exec) (hb : c.code = cc) (hK : va_K D vwCl (tysC cy) s) (hP : HP D cy b0 N S H) {k : Nat} (hkN : k < N) (hk : kd k = 13) {n : Nat} (hn : ln k = n) {i : Int32} (hin : vp_in i n) (hdg : decode cc pc = .ok (.daload, 1))
    (kk : W p l e R s m args below meth c H locs cells slots Q (F0 m (pc + 1) ls (.double (gD S k i.toNatClampNeg) :: rest))) : W p l e R s m args below meth c H locs cells slots Q (F0 m pc ls (.int i :: .ref (b0 + k) :: rest)) := by
  subst hn
  exact va_dald hexec hb hK (hP.one hkN (cell_13 hk)) 0 6 rfl rfl hin hdg kk
theorem q_aald9 (hexec : p.tables.exec = Jvm.exec) (hb : c.code = cc) (hK : va_K D vwCl (tysC cy) s) (hP : HP D cy b0 N S H) {k : Nat} (hkN : k < N) (hk : kd k = 9) {n : Nat} (hn : ln k = n) {i : Int32} (hin : vp_in i n) (hdg : decode cc pc = .ok (.aaload, 1))
    (kk : W p l e R s m args below meth c H locs cells slots Q (F0 m (pc + 1) ls (rf b0 (gR S k i.toNatClampNeg) :: rest))) : W p l e R s m args below meth c H locs cells slots Q (F0 m pc ls (.int i :: .ref (b0 + k) :: rest)) := by
  subst hn
  exact va_aldq hexec hb hK (hP.one hkN (cell_9 hk)) 0 2 rfl rfl hin hdg kk
theorem q_aald10 (hexec : p.tables.exec = Jvm.exec) (hb : c.code = cc) (hK : va_K D vwCl (tysC cy) s) (hP : HP D cy b0 N S H) {k : Nat} (hkN : k < N) (hk : kd k = 10) {n : Nat} (hn : ln k = n) {i : Int32} (hin : vp_in i n) (hdg : decode cc pc = .ok (.aaload, 1))
    (kk : W p l e R s m args below meth c H locs cells slots Q (F0 m (pc + 1) ls (rf b0 (gR S k i.toNatClampNeg) :: rest))) : W p l e R s m args below meth c H locs cells slots Q (F0 m pc ls (.int i :: .ref (b0 + k) :: rest)) := by
  subst hn
  exact va_aldq hexec hb hK (hP.one hkN (cell_10 hk)) 0 3 rfl rfl hin hdg kk
theorem q_aald11 (hexec : p.tables.exec = Jvm.exec) (hb : c.code = cc) (hK : va_K D vwCl (tysC cy) s) (hP : HP D cy b0 N S H) {k : Nat} (hkN : k < N) (hk : kd k = 11) {n : Nat} (hn : ln k = n) {i : Int32} (hin : vp_in i n) (hdg : decode cc pc = .ok (.aaload, 1))
    (kk : W p l e R s m args below meth c H locs cells slots Q (F0 m (pc + 1) ls (rf b0 (gR S k i.toNatClampNeg) :: rest))) : W p l e R s m args below meth c H locs cells slots Q (F0 m pc ls (.int i :: .ref (b0 + k) :: rest)) := by
  subst hn
  have hlt : i.toNatClampNeg < ln k := Nat.not_le.mp fun q => hin (Or.inr q)
  have h1 := hP k hkN
  rw [cell_11 hk] at h1
  exact W.aald (v := rf b0 (gR S k i.toNatClampNeg)) (ty := .array .int) hexec hb h1 ((hK.2 4 _ rfl).1 (ln k) (fun j => rf b0 (gR S k j))) rfl (fun q => by cases q) (by show ¬ (i < 0 ∨ (arrV _ _ _).slots.size ≤ _); rw [arrV_size]; exact hin) (by show (arrV _ _ _).slots[_]? = _; rw [arrV_read _ _ hlt]; rfl) rfl rfl hdg kk
theorem q_iast (hexec : p.tables.exec = Jvm.exec) (hb : c.code = cc) (hK : va_K D vwCl (tysC cy) s) (hP : HP D cy b0 N S H) (hS : va_S (AA b0) H0 H locs) {k : Nat} (hkN : k < N) (hk : kd k = 7) {n : Nat} (hn : ln k = n) {i x : Int32} (hin : vp_in i n) (hdg : decode cc pc = .ok (.iastore, 1))
    (kk : ∀ (H1 : Heap) (locs1 : List Loc), H1.size = H.size → HP D cy b0 N (sI S k i.toNatClampNeg x) H1 → va_S (AA b0) H0 H1 locs1 → W p l e R s m args below meth c H1 locs1 cells slots Q (F0 m (pc + 1) ls rest)) : W p l e R s m args below meth c H locs cells slots Q (F0 m pc ls (.int x :: .int i :: .ref (b0 + k) :: rest)) := by
  subst hn
  have h1 := hP k hkN
  rw [cell_7 hk] at h1
  refine W.iast hexec hb h1 ((hK.2 0 _ rfl).1 (ln k) (fun j => .int (gI S k j))) (fun q => by cases q) (by show ¬ (i < 0 ∨ (arrV _ _ _).slots.size ≤ _); rw [arrV_size]; exact hin) rfl rfl hdg fun H1 e z oq => ?_
  refine kk H1 _ z (hP.upd ?_ oq cell_sI) (hS.put z oq (Nat.le_add_right _ _))
  rw [cell_7 hk]
  show H1[b0 + k]? = some (vp_cell _ _)
  rw [e]
  rw [vp_cell_i, vp_cell_i, arrV_store]
  congr 2
  funext q
  by_cases hq : q = i.toNatClampNeg
  · subst hq
    simp [updV, gI, sI]
  · simp [updV, gI, sI, hq]
theorem q_zast (hexec : p.tables.exec = Jvm.exec) (hb : c.code = cc) (hK : va_K D vwCl (tysC cy) s) (hP : HP D cy b0 N S H) (hS : va_S (AA b0) H0 H locs) {k : Nat} (hkN : k < N) (hk : kd k = 8) {n : Nat} (hn : ln k = n) {i x : Int32} (hz : narrow .boolean (.int x) = .int x) (hin : vp_in i n) (hdg : decode cc pc = .ok (.bastore, 1))
    (kk : ∀ (H1 : Heap) (locs1 : List Loc), H1.size = H.size → HP D cy b0 N (sI S k i.toNatClampNeg x) H1 → va_S (AA b0) H0 H1 locs1 → W p l e R s m args below meth c H1 locs1 cells slots Q (F0 m (pc + 1) ls rest)) : W p l e R s m args below meth c H locs cells slots Q (F0 m pc ls (.int x :: .int i :: .ref (b0 + k) :: rest)) := by
  subst hn
  have h1 := hP k hkN
  rw [cell_8 hk] at h1
  refine W.zast hexec hb h1 ((hK.2 1 _ rfl).1 (ln k) (fun j => .int (gI S k j))) (fun q => by cases q) (by show ¬ (i < 0 ∨ (arrV _ _ _).slots.size ≤ _); rw [arrV_size]; exact hin) rfl rfl hdg fun H1 e z oq => ?_
  refine kk H1 _ z (hP.upd ?_ oq cell_sI) (hS.put z oq (Nat.le_add_right _ _))
  rw [cell_8 hk]
  show H1[b0 + k]? = some (vp_cell _ _)
  rw [e]
  rw [vp_cell_i, vp_cell_i, arrV_store]
  congr 2
  funext q
  by_cases hq : q = i.toNatClampNeg
  · subst hq
    simp [updV, gI, sI, hz]
  · simp [updV, gI, sI, hq]
theorem q_last (hexec : p.tables.exec = Jvm.exec) (hb : c.code = cc) (hK : va_K D vwCl (tysC cy) s) (hP : HP D cy b0 N S H) (hS : va_S (AA b0) H0 H locs) {k : Nat} (hkN : k < N) (hk : kd k = 12) {n : Nat} (hn : ln k = n) {i : Int32} {x : Int64} (hin : vp_in i n) (hdg : decode cc pc = .ok (.lastore, 1))
    (kk : ∀ (H1 : Heap) (locs1 : List Loc), H1.size = H.size → HP D cy b0 N (sJ S k i.toNatClampNeg x) H1 → va_S (AA b0) H0 H1 locs1 → W p l e R s m args below meth c H1 locs1 cells slots Q (F0 m (pc + 1) ls rest)) : W p l e R s m args below meth c H locs cells slots Q (F0 m pc ls (.long x :: .int i :: .ref (b0 + k) :: rest)) := by
  subst hn
  have h1 := hP k hkN
  rw [cell_12 hk] at h1
  refine W.last hexec hb h1 ((hK.2 5 _ rfl).1 (ln k) (fun j => .long (gJ S k j))) (fun q => by cases q) (by show ¬ (i < 0 ∨ (arrV _ _ _).slots.size ≤ _); rw [arrV_size]; exact hin) rfl rfl hdg fun H1 e z oq => ?_
  refine kk H1 _ z (hP.upd ?_ oq cell_sJ) (hS.put z oq (Nat.le_add_right _ _))
  rw [cell_12 hk]
  show H1[b0 + k]? = some (vp_cell _ _)
  rw [e]
  rw [vp_cell_l, vp_cell_l, arrV_store]
  congr 2
  funext q
  by_cases hq : q = i.toNatClampNeg
  · subst hq
    simp [updV, gJ, sJ]
  · simp [updV, gJ, sJ, hq]
theorem q_dast (hexec : p.tables.exec = Jvm.exec) (hb : c.code = cc) (hK : va_K D vwCl (tysC cy) s) (hP : HP D cy b0 N S H) (hS : va_S (AA b0) H0 H locs) {k : Nat} (hkN : k < N) (hk : kd k = 13) {n : Nat} (hn : ln k = n) {i : Int32} {x : UInt64} (hin : vp_in i n) (hdg : decode cc pc = .ok (.dastore, 1))
    (kk : ∀ (H1 : Heap) (locs1 : List Loc), H1.size = H.size → HP D cy b0 N (sD S k i.toNatClampNeg x) H1 → va_S (AA b0) H0 H1 locs1 → W p l e R s m args below meth c H1 locs1 cells slots Q (F0 m (pc + 1) ls rest)) : W p l e R s m args below meth c H locs cells slots Q (F0 m pc ls (.double x :: .int i :: .ref (b0 + k) :: rest)) := by
  subst hn
  have h1 := hP k hkN
  rw [cell_13 hk] at h1
  refine W.dast hexec hb h1 ((hK.2 6 _ rfl).1 (ln k) (fun j => .double (gD S k j))) (fun q => by cases q) (by show ¬ (i < 0 ∨ (arrV _ _ _).slots.size ≤ _); rw [arrV_size]; exact hin) rfl rfl hdg fun H1 e z oq => ?_
  refine kk H1 _ z (hP.upd ?_ oq cell_sD) (hS.put z oq (Nat.le_add_right _ _))
  rw [cell_13 hk]
  show H1[b0 + k]? = some (vp_cell _ _)
  rw [e]
  rw [vp_cell_d, vp_cell_d, arrV_store]
  congr 2
  funext q
  by_cases hq : q = i.toNatClampNeg
  · subst hq
    simp [updV, gD, sD]
  · simp [updV, gD, sD, hq]
theorem q_aastN (hexec : p.tables.exec = Jvm.exec) (hb : c.code = cc) (hK : va_K D vwCl (tysC cy) s) (hP : HP D cy b0 N S H) (hS : va_S (AA b0) H0 H locs) {k : Nat} (hkN : k < N) (hk : kd k = 9) {n : Nat} (hn : ln k = n) {i : Int32} (hin : vp_in i n) (hdg : decode cc pc = .ok (.aastore, 1))
    (kk : ∀ (H1 : Heap) (locs1 : List Loc), H1.size = H.size → HP D cy b0 N (sR S k i.toNatClampNeg none) H1 → va_S (AA b0) H0 H1 locs1 → W p l e R s m args below meth c H1 locs1 cells slots Q (F0 m (pc + 1) ls rest)) : W p l e R s m args below meth c H locs cells slots Q (F0 m pc ls (.null :: .int i :: .ref (b0 + k) :: rest)) := by
  subst hn
  have h1 := hP k hkN
  rw [cell_9 hk] at h1
  refine va_WaastN (C := RX1) hexec hb h1 ((hK.2 2 _ rfl).1 (ln k) (fun j => rf b0 (gR S k j))) (fun h => by cases h) (by show ¬ (i < 0 ∨ (arrV _ _ _).slots.size ≤ _); rw [arrV_size]; exact hin) rfl rfl hdg fun H1 e z oq => ?_
  refine kk H1 _ z (hP.upd ?_ oq cell_sR) (hS.put z oq (Nat.le_add_right _ _))
  rw [cell_9 hk]
  show H1[b0 + k]? = some (vp_cell _ _)
  rw [e]
  rw [vp_cell_q, vp_cell_q, arrV_store]
  congr 2
  funext q
  by_cases hq : q = i.toNatClampNeg
  · subst hq
    simp [updV, gR, sR, va_rf]
  · simp [updV, gR, sR, hq]
theorem q_aast (hexec : p.tables.exec = Jvm.exec) (hb : c.code = cc) (hK : va_K D vwCl (tysC cy) s) (hP : HP D cy b0 N S H) (hS : va_S (AA b0) H0 H locs) {k : Nat} (hkN : k < N) {z : Nat} (t0 ci : Nat) {r : vw_C} {cA : ClassId} {n v : Nat} {vs : List Value} (hc : vwCl[ci]? = some r) (hkk : ∀ S : St, cellC cy b0 S k = .inl (cA, n, .inr (.inr (.inr (.inr (fun j => (gR S k j).map (fun q => b0 + q))))))) (ht : (tysC cy)[t0]? = some (cA, .object r.1)) (hvN : v < N) (hv : cellC cy b0 S v = .inr (ci, vs)) {i : Int32} (hin : vp_in i n) (hdg : decode cc pc = .ok (.aastore, 1))
    (kk : ∀ (H1 : Heap) (locs1 : List Loc), H1.size = H.size → HP D cy b0 N (sR S k i.toNatClampNeg (some v)) H1 → va_S (AA b0) H0 H1 locs1 → W p l e R s m args below meth c H1 locs1 cells slots Q (F0 m (pc + 1) ls rest)) : W p l e R s m args below meth c H locs cells slots Q (F0 m pc ls (.ref (b0 + v) :: .int i :: .ref (b0 + k) :: rest)) := by
  have hlt : i.toNatClampNeg < n := Nat.not_le.mp fun q => hin (Or.inr q)
  have h0 : ¬ i < 0 := fun q => hin (Or.inl q)
  have h1 := hP k hkN
  rw [hkk S] at h1
  have h2 := hP v hvN
  rw [hv] at h2
  obtain ⟨r', hr', cellV, g1, g2, g3, -⟩ := h2
  have hcls := (hK.1 ci r hc).2
  obtain ⟨kA, comp, k1, k2, k3, -⟩ := (hK.2 t0 _ ht).2
  have hcomp : comp = D.1 ci := Option.some.inj (k3.symm.trans hcls.1)
  subst hcomp
  obtain ⟨kC, hkC, -⟩ := hcls.2
  refine W.aast hexec hb h1 (fun q h => by cases h) (fun h => by cases h) k1 k2 rfl hkC ⟨h0, by show _ < (arrV _ _ _).slots.size; rw [arrV_size]; exact hlt⟩ g1 (fun q h => by rw [g3] at h; cases h) (by rw [g2]; exact hkC) (by rw [g2]; exact va_assign hcls) rfl rfl hdg fun H1 e z oq => ?_
  refine kk H1 _ z (hP.upd ?_ oq cell_sR) (hS.put z oq (Nat.le_add_right _ _))
  rw [hkk]
  show H1[b0 + k]? = some (vp_cell _ _)
  rw [e]
  rw [vp_cell_q, vp_cell_q, arrV_store]
  congr 2
  funext q
  by_cases hq : q = i.toNatClampNeg
  · subst hq
    simp [updV, gR, sR, va_rf]
  · simp [updV, gR, sR, hq]
end QR
section QF
variable {p : Program} {l : Launch} {e : Env} {R : Room} {s : State} {m : MethodId} {args : Array Value} {below : List Frame} {meth : Method} {c : Code} {H : Heap} {locs : List Loc} {cells slots : Nat} {Q : State → Prop}
variable {cc : ByteArray} {pc : Nat} {ls : Array Slot} {rest : List Value} {D : va_G} {cy : Nat → ClassId} {b0 N : Nat} {S : St} {A : Nat → Prop} {H0 : Heap} {own : String} {index : Nat} {Ts : List Cond}
theorem gf_0_0 (hexec : p.tables.exec = Jvm.exec) (hb : c.code = cc) (hts : ∀ w ∈ Ts, w.before args s = true) (hin : ∀ w ∈ wsX00, w ∈ Ts) (hown : s.vm.findClass own = some m.cls) (hK : va_K D vwCl (tysC cy) s) (hP : HP D cy b0 N S H) {k : Nat} (hkN : k < N) (hk : kd k = 0) {q : Nat} (hq : gR S k 0 = some q) (hlink : (Cond.fieldLink own index (TX0 0).1 (TX0 0).2.1 (TX0 0).2.2.1).before args s = true) (hdg : decode cc pc = .ok (.getfield index, 3)) (kk : W p l e R s m args below meth c H locs cells slots Q (F0 m (pc + 3) ls (.ref (b0 + q) :: rest))) : W p l e R s m args below meth c H locs cells slots Q (F0 m pc ls (.ref (b0 + k) :: rest)) := q_get (ci := 0) (r := (RX0, TX0, 3)) hexec hb hts hin hown hK hP hkN (cell_0 hk) rfl 0 (by decide) hlink (v := .ref (b0 + q)) (by rw [← rf_some hq]; rfl) hdg kk
theorem gn_0_0 (hexec : p.tables.exec = Jvm.exec) (hb : c.code = cc) (hts : ∀ w ∈ Ts, w.before args s = true) (hin : ∀ w ∈ wsX00, w ∈ Ts) (hown : s.vm.findClass own = some m.cls) (hK : va_K D vwCl (tysC cy) s) (hP : HP D cy b0 N S H) {k : Nat} (hkN : k < N) (hk : kd k = 0) (hq : gR S k 0 = none) (hlink : (Cond.fieldLink own index (TX0 0).1 (TX0 0).2.1 (TX0 0).2.2.1).before args s = true) (hdg : decode cc pc = .ok (.getfield index, 3)) (kk : W p l e R s m args below meth c H locs cells slots Q (F0 m (pc + 3) ls (.null :: rest))) : W p l e R s m args below meth c H locs cells slots Q (F0 m pc ls (.ref (b0 + k) :: rest)) := q_get (ci := 0) (r := (RX0, TX0, 3)) hexec hb hts hin hown hK hP hkN (cell_0 hk) rfl 0 (by decide) hlink (v := .null) (by rw [← rf_none (b0 := b0) hq]; rfl) hdg kk
theorem gf_0_1 (hexec : p.tables.exec = Jvm.exec) (hb : c.code = cc) (hts : ∀ w ∈ Ts, w.before args s = true) (hin : ∀ w ∈ wsX00, w ∈ Ts) (hown : s.vm.findClass own = some m.cls) (hK : va_K D vwCl (tysC cy) s) (hP : HP D cy b0 N S H) {k : Nat} (hkN : k < N) (hk : kd k = 0) {q : Nat} (hq : gR S k 1 = some q) (hlink : (Cond.fieldLink own index (TX0 1).1 (TX0 1).2.1 (TX0 1).2.2.1).before args s = true) (hdg : decode cc pc = .ok (.getfield index, 3)) (kk : W p l e R s m args below meth c H locs cells slots Q (F0 m (pc + 3) ls (.ref (b0 + q) :: rest))) : W p l e R s m args below meth c H locs cells slots Q (F0 m pc ls (.ref (b0 + k) :: rest)) := q_get (ci := 0) (r := (RX0, TX0, 3)) hexec hb hts hin hown hK hP hkN (cell_0 hk) rfl 1 (by decide) hlink (v := .ref (b0 + q)) (by rw [← rf_some hq]; rfl) hdg kk
theorem gn_0_1 (hexec : p.tables.exec = Jvm.exec) (hb : c.code = cc) (hts : ∀ w ∈ Ts, w.before args s = true) (hin : ∀ w ∈ wsX00, w ∈ Ts) (hown : s.vm.findClass own = some m.cls) (hK : va_K D vwCl (tysC cy) s) (hP : HP D cy b0 N S H) {k : Nat} (hkN : k < N) (hk : kd k = 0) (hq : gR S k 1 = none) (hlink : (Cond.fieldLink own index (TX0 1).1 (TX0 1).2.1 (TX0 1).2.2.1).before args s = true) (hdg : decode cc pc = .ok (.getfield index, 3)) (kk : W p l e R s m args below meth c H locs cells slots Q (F0 m (pc + 3) ls (.null :: rest))) : W p l e R s m args below meth c H locs cells slots Q (F0 m pc ls (.ref (b0 + k) :: rest)) := q_get (ci := 0) (r := (RX0, TX0, 3)) hexec hb hts hin hown hK hP hkN (cell_0 hk) rfl 1 (by decide) hlink (v := .null) (by rw [← rf_none (b0 := b0) hq]; rfl) hdg kk
theorem gf_0_2 (hexec : p.tables.exec = Jvm.exec) (hb : c.code = cc) (hts : ∀ w ∈ Ts, w.before args s = true) (hin : ∀ w ∈ wsX00, w ∈ Ts) (hown : s.vm.findClass own = some m.cls) (hK : va_K D vwCl (tysC cy) s) (hP : HP D cy b0 N S H) {k : Nat} (hkN : k < N) (hk : kd k = 0) (hlink : (Cond.fieldLink own index (TX0 2).1 (TX0 2).2.1 (TX0 2).2.2.1).before args s = true) (hdg : decode cc pc = .ok (.getfield index, 3)) (kk : W p l e R s m args below meth c H locs cells slots Q (F0 m (pc + 3) ls (.int (gI S k 2) :: rest))) : W p l e R s m args below meth c H locs cells slots Q (F0 m pc ls (.ref (b0 + k) :: rest)) := q_get (ci := 0) (r := (RX0, TX0, 3)) hexec hb hts hin hown hK hP hkN (cell_0 hk) rfl 2 (by decide) hlink rfl hdg kk
theorem gf_1_0 (hexec : p.tables.exec = Jvm.exec) (hb : c.code = cc) (hts : ∀ w ∈ Ts, w.before args s = true) (hin : ∀ w ∈ wsX10, w ∈ Ts) (hown : s.vm.findClass own = some m.cls) (hK : va_K D vwCl (tysC cy) s) (hP : HP D cy b0 N S H) {k : Nat} (hkN : k < N) (hk : kd k = 1) (hlink : (Cond.fieldLink own index (TX1 0).1 (TX1 0).2.1 (TX1 0).2.2.1).before args s = true) (hdg : decode cc pc = .ok (.getfield index, 3)) (kk : W p l e R s m args below meth c H locs cells slots Q (F0 m (pc + 3) ls (.int (gI S k 0) :: rest))) : W p l e R s m args below meth c H locs cells slots Q (F0 m pc ls (.ref (b0 + k) :: rest)) := q_get (ci := 1) (r := (RX1, TX1, 7)) hexec hb hts hin hown hK hP hkN (cell_1 hk) rfl 0 (by decide) hlink rfl hdg kk
theorem gf_1_1 (hexec : p.tables.exec = Jvm.exec) (hb : c.code = cc) (hts : ∀ w ∈ Ts, w.before args s = true) (hin : ∀ w ∈ wsX10, w ∈ Ts) (hown : s.vm.findClass own = some m.cls) (hK : va_K D vwCl (tysC cy) s) (hP : HP D cy b0 N S H) {k : Nat} (hkN : k < N) (hk : kd k = 1) {q : Nat} (hq : gR S k 1 = some q) (hlink : (Cond.fieldLink own index (TX1 1).1 (TX1 1).2.1 (TX1 1).2.2.1).before args s = true) (hdg : decode cc pc = .ok (.getfield index, 3)) (kk : W p l e R s m args below meth c H locs cells slots Q (F0 m (pc + 3) ls (.ref (b0 + q) :: rest))) : W p l e R s m args below meth c H locs cells slots Q (F0 m pc ls (.ref (b0 + k) :: rest)) := q_get (ci := 1) (r := (RX1, TX1, 7)) hexec hb hts hin hown hK hP hkN (cell_1 hk) rfl 1 (by decide) hlink (v := .ref (b0 + q)) (by rw [← rf_some hq]; rfl) hdg kk
theorem gn_1_1 (hexec : p.tables.exec = Jvm.exec) (hb : c.code = cc) (hts : ∀ w ∈ Ts, w.before args s = true) (hin : ∀ w ∈ wsX10, w ∈ Ts) (hown : s.vm.findClass own = some m.cls) (hK : va_K D vwCl (tysC cy) s) (hP : HP D cy b0 N S H) {k : Nat} (hkN : k < N) (hk : kd k = 1) (hq : gR S k 1 = none) (hlink : (Cond.fieldLink own index (TX1 1).1 (TX1 1).2.1 (TX1 1).2.2.1).before args s = true) (hdg : decode cc pc = .ok (.getfield index, 3)) (kk : W p l e R s m args below meth c H locs cells slots Q (F0 m (pc + 3) ls (.null :: rest))) : W p l e R s m args below meth c H locs cells slots Q (F0 m pc ls (.ref (b0 + k) :: rest)) := q_get (ci := 1) (r := (RX1, TX1, 7)) hexec hb hts hin hown hK hP hkN (cell_1 hk) rfl 1 (by decide) hlink (v := .null) (by rw [← rf_none (b0 := b0) hq]; rfl) hdg kk
theorem gf_1_2 (hexec : p.tables.exec = Jvm.exec) (hb : c.code = cc) (hts : ∀ w ∈ Ts, w.before args s = true) (hin : ∀ w ∈ wsX10, w ∈ Ts) (hown : s.vm.findClass own = some m.cls) (hK : va_K D vwCl (tysC cy) s) (hP : HP D cy b0 N S H) {k : Nat} (hkN : k < N) (hk : kd k = 1) {q : Nat} (hq : gR S k 2 = some q) (hlink : (Cond.fieldLink own index (TX1 2).1 (TX1 2).2.1 (TX1 2).2.2.1).before args s = true) (hdg : decode cc pc = .ok (.getfield index, 3)) (kk : W p l e R s m args below meth c H locs cells slots Q (F0 m (pc + 3) ls (.ref (b0 + q) :: rest))) : W p l e R s m args below meth c H locs cells slots Q (F0 m pc ls (.ref (b0 + k) :: rest)) := q_get (ci := 1) (r := (RX1, TX1, 7)) hexec hb hts hin hown hK hP hkN (cell_1 hk) rfl 2 (by decide) hlink (v := .ref (b0 + q)) (by rw [← rf_some hq]; rfl) hdg kk
theorem gn_1_2 (hexec : p.tables.exec = Jvm.exec) (hb : c.code = cc) (hts : ∀ w ∈ Ts, w.before args s = true) (hin : ∀ w ∈ wsX10, w ∈ Ts) (hown : s.vm.findClass own = some m.cls) (hK : va_K D vwCl (tysC cy) s) (hP : HP D cy b0 N S H) {k : Nat} (hkN : k < N) (hk : kd k = 1) (hq : gR S k 2 = none) (hlink : (Cond.fieldLink own index (TX1 2).1 (TX1 2).2.1 (TX1 2).2.2.1).before args s = true) (hdg : decode cc pc = .ok (.getfield index, 3)) (kk : W p l e R s m args below meth c H locs cells slots Q (F0 m (pc + 3) ls (.null :: rest))) : W p l e R s m args below meth c H locs cells slots Q (F0 m pc ls (.ref (b0 + k) :: rest)) := q_get (ci := 1) (r := (RX1, TX1, 7)) hexec hb hts hin hown hK hP hkN (cell_1 hk) rfl 2 (by decide) hlink (v := .null) (by rw [← rf_none (b0 := b0) hq]; rfl) hdg kk
theorem gf_1_3 (hexec : p.tables.exec = Jvm.exec) (hb : c.code = cc) (hts : ∀ w ∈ Ts, w.before args s = true) (hin : ∀ w ∈ wsX10, w ∈ Ts) (hown : s.vm.findClass own = some m.cls) (hK : va_K D vwCl (tysC cy) s) (hP : HP D cy b0 N S H) {k : Nat} (hkN : k < N) (hk : kd k = 1) (hlink : (Cond.fieldLink own index (TX1 3).1 (TX1 3).2.1 (TX1 3).2.2.1).before args s = true) (hdg : decode cc pc = .ok (.getfield index, 3)) (kk : W p l e R s m args below meth c H locs cells slots Q (F0 m (pc + 3) ls (.int (gI S k 3) :: rest))) : W p l e R s m args below meth c H locs cells slots Q (F0 m pc ls (.ref (b0 + k) :: rest)) := q_get (ci := 1) (r := (RX1, TX1, 7)) hexec hb hts hin hown hK hP hkN (cell_1 hk) rfl 3 (by decide) hlink rfl hdg kk
theorem gf_1_4 (hexec : p.tables.exec = Jvm.exec) (hb : c.code = cc) (hts : ∀ w ∈ Ts, w.before args s = true) (hin : ∀ w ∈ wsX10, w ∈ Ts) (hown : s.vm.findClass own = some m.cls) (hK : va_K D vwCl (tysC cy) s) (hP : HP D cy b0 N S H) {k : Nat} (hkN : k < N) (hk : kd k = 1) (hlink : (Cond.fieldLink own index (TX1 4).1 (TX1 4).2.1 (TX1 4).2.2.1).before args s = true) (hdg : decode cc pc = .ok (.getfield index, 3)) (kk : W p l e R s m args below meth c H locs cells slots Q (F0 m (pc + 3) ls (.int (gI S k 4) :: rest))) : W p l e R s m args below meth c H locs cells slots Q (F0 m pc ls (.ref (b0 + k) :: rest)) := q_get (ci := 1) (r := (RX1, TX1, 7)) hexec hb hts hin hown hK hP hkN (cell_1 hk) rfl 4 (by decide) hlink rfl hdg kk
theorem gf_1_5 (hexec : p.tables.exec = Jvm.exec) (hb : c.code = cc) (hts : ∀ w ∈ Ts, w.before args s = true) (hin : ∀ w ∈ wsX10, w ∈ Ts) (hown : s.vm.findClass own = some m.cls) (hK : va_K D vwCl (tysC cy) s) (hP : HP D cy b0 N S H) {k : Nat} (hkN : k < N) (hk : kd k = 1) (hlink : (Cond.fieldLink own index (TX1 5).1 (TX1 5).2.1 (TX1 5).2.2.1).before args s = true) (hdg : decode cc pc = .ok (.getfield index, 3)) (kk : W p l e R s m args below meth c H locs cells slots Q (F0 m (pc + 3) ls (.int (gI S k 5) :: rest))) : W p l e R s m args below meth c H locs cells slots Q (F0 m pc ls (.ref (b0 + k) :: rest)) := q_get (ci := 1) (r := (RX1, TX1, 7)) hexec hb hts hin hown hK hP hkN (cell_1 hk) rfl 5 (by decide) hlink rfl hdg kk
theorem gf_1_6 (hexec : p.tables.exec = Jvm.exec) (hb : c.code = cc) (hts : ∀ w ∈ Ts, w.before args s = true) (hin : ∀ w ∈ wsX10, w ∈ Ts) (hown : s.vm.findClass own = some m.cls) (hK : va_K D vwCl (tysC cy) s) (hP : HP D cy b0 N S H) {k : Nat} (hkN : k < N) (hk : kd k = 1) (hlink : (Cond.fieldLink own index (TX1 6).1 (TX1 6).2.1 (TX1 6).2.2.1).before args s = true) (hdg : decode cc pc = .ok (.getfield index, 3)) (kk : W p l e R s m args below meth c H locs cells slots Q (F0 m (pc + 3) ls (.int (gI S k 6) :: rest))) : W p l e R s m args below meth c H locs cells slots Q (F0 m pc ls (.ref (b0 + k) :: rest)) := q_get (ci := 1) (r := (RX1, TX1, 7)) hexec hb hts hin hown hK hP hkN (cell_1 hk) rfl 6 (by decide) hlink rfl hdg kk
theorem gf_2_0 (hexec : p.tables.exec = Jvm.exec) (hb : c.code = cc) (hts : ∀ w ∈ Ts, w.before args s = true) (hin : ∀ w ∈ wsX20, w ∈ Ts) (hown : s.vm.findClass own = some m.cls) (hK : va_K D vwCl (tysC cy) s) (hP : HP D cy b0 N S H) {k : Nat} (hkN : k < N) (hk : kd k = 2) (hlink : (Cond.fieldLink own index (TX2 0).1 (TX2 0).2.1 (TX2 0).2.2.1).before args s = true) (hdg : decode cc pc = .ok (.getfield index, 3)) (kk : W p l e R s m args below meth c H locs cells slots Q (F0 m (pc + 3) ls (.int (gI S k 0) :: rest))) : W p l e R s m args below meth c H locs cells slots Q (F0 m pc ls (.ref (b0 + k) :: rest)) := q_get (ci := 2) (r := (RX2, TX2, 8)) hexec hb hts hin hown hK hP hkN (cell_2 hk) rfl 0 (by decide) hlink rfl hdg kk
theorem gf_2_1 (hexec : p.tables.exec = Jvm.exec) (hb : c.code = cc) (hts : ∀ w ∈ Ts, w.before args s = true) (hin : ∀ w ∈ wsX20, w ∈ Ts) (hown : s.vm.findClass own = some m.cls) (hK : va_K D vwCl (tysC cy) s) (hP : HP D cy b0 N S H) {k : Nat} (hkN : k < N) (hk : kd k = 2) (hlink : (Cond.fieldLink own index (TX2 1).1 (TX2 1).2.1 (TX2 1).2.2.1).before args s = true) (hdg : decode cc pc = .ok (.getfield index, 3)) (kk : W p l e R s m args below meth c H locs cells slots Q (F0 m (pc + 3) ls (.int (gI S k 1) :: rest))) : W p l e R s m args below meth c H locs cells slots Q (F0 m pc ls (.ref (b0 + k) :: rest)) := q_get (ci := 2) (r := (RX2, TX2, 8)) hexec hb hts hin hown hK hP hkN (cell_2 hk) rfl 1 (by decide) hlink rfl hdg kk
theorem gf_2_2 (hexec : p.tables.exec = Jvm.exec) (hb : c.code = cc) (hts : ∀ w ∈ Ts, w.before args s = true) (hin : ∀ w ∈ wsX20, w ∈ Ts) (hown : s.vm.findClass own = some m.cls) (hK : va_K D vwCl (tysC cy) s) (hP : HP D cy b0 N S H) {k : Nat} (hkN : k < N) (hk : kd k = 2) (hlink : (Cond.fieldLink own index (TX2 2).1 (TX2 2).2.1 (TX2 2).2.2.1).before args s = true) (hdg : decode cc pc = .ok (.getfield index, 3)) (kk : W p l e R s m args below meth c H locs cells slots Q (F0 m (pc + 3) ls (.int (gI S k 2) :: rest))) : W p l e R s m args below meth c H locs cells slots Q (F0 m pc ls (.ref (b0 + k) :: rest)) := q_get (ci := 2) (r := (RX2, TX2, 8)) hexec hb hts hin hown hK hP hkN (cell_2 hk) rfl 2 (by decide) hlink rfl hdg kk
theorem gf_2_3 (hexec : p.tables.exec = Jvm.exec) (hb : c.code = cc) (hts : ∀ w ∈ Ts, w.before args s = true) (hin : ∀ w ∈ wsX20, w ∈ Ts) (hown : s.vm.findClass own = some m.cls) (hK : va_K D vwCl (tysC cy) s) (hP : HP D cy b0 N S H) {k : Nat} (hkN : k < N) (hk : kd k = 2) (hlink : (Cond.fieldLink own index (TX2 3).1 (TX2 3).2.1 (TX2 3).2.2.1).before args s = true) (hdg : decode cc pc = .ok (.getfield index, 3)) (kk : W p l e R s m args below meth c H locs cells slots Q (F0 m (pc + 3) ls (.int (gI S k 3) :: rest))) : W p l e R s m args below meth c H locs cells slots Q (F0 m pc ls (.ref (b0 + k) :: rest)) := q_get (ci := 2) (r := (RX2, TX2, 8)) hexec hb hts hin hown hK hP hkN (cell_2 hk) rfl 3 (by decide) hlink rfl hdg kk
theorem gf_2_4 (hexec : p.tables.exec = Jvm.exec) (hb : c.code = cc) (hts : ∀ w ∈ Ts, w.before args s = true) (hin : ∀ w ∈ wsX20, w ∈ Ts) (hown : s.vm.findClass own = some m.cls) (hK : va_K D vwCl (tysC cy) s) (hP : HP D cy b0 N S H) {k : Nat} (hkN : k < N) (hk : kd k = 2) (hlink : (Cond.fieldLink own index (TX2 4).1 (TX2 4).2.1 (TX2 4).2.2.1).before args s = true) (hdg : decode cc pc = .ok (.getfield index, 3)) (kk : W p l e R s m args below meth c H locs cells slots Q (F0 m (pc + 3) ls (.int (gI S k 4) :: rest))) : W p l e R s m args below meth c H locs cells slots Q (F0 m pc ls (.ref (b0 + k) :: rest)) := q_get (ci := 2) (r := (RX2, TX2, 8)) hexec hb hts hin hown hK hP hkN (cell_2 hk) rfl 4 (by decide) hlink rfl hdg kk
theorem gf_2_5 (hexec : p.tables.exec = Jvm.exec) (hb : c.code = cc) (hts : ∀ w ∈ Ts, w.before args s = true) (hin : ∀ w ∈ wsX20, w ∈ Ts) (hown : s.vm.findClass own = some m.cls) (hK : va_K D vwCl (tysC cy) s) (hP : HP D cy b0 N S H) {k : Nat} (hkN : k < N) (hk : kd k = 2) {q : Nat} (hq : gR S k 5 = some q) (hlink : (Cond.fieldLink own index (TX2 5).1 (TX2 5).2.1 (TX2 5).2.2.1).before args s = true) (hdg : decode cc pc = .ok (.getfield index, 3)) (kk : W p l e R s m args below meth c H locs cells slots Q (F0 m (pc + 3) ls (.ref (b0 + q) :: rest))) : W p l e R s m args below meth c H locs cells slots Q (F0 m pc ls (.ref (b0 + k) :: rest)) := q_get (ci := 2) (r := (RX2, TX2, 8)) hexec hb hts hin hown hK hP hkN (cell_2 hk) rfl 5 (by decide) hlink (v := .ref (b0 + q)) (by rw [← rf_some hq]; rfl) hdg kk
theorem gn_2_5 (hexec : p.tables.exec = Jvm.exec) (hb : c.code = cc) (hts : ∀ w ∈ Ts, w.before args s = true) (hin : ∀ w ∈ wsX20, w ∈ Ts) (hown : s.vm.findClass own = some m.cls) (hK : va_K D vwCl (tysC cy) s) (hP : HP D cy b0 N S H) {k : Nat} (hkN : k < N) (hk : kd k = 2) (hq : gR S k 5 = none) (hlink : (Cond.fieldLink own index (TX2 5).1 (TX2 5).2.1 (TX2 5).2.2.1).before args s = true) (hdg : decode cc pc = .ok (.getfield index, 3)) (kk : W p l e R s m args below meth c H locs cells slots Q (F0 m (pc + 3) ls (.null :: rest))) : W p l e R s m args below meth c H locs cells slots Q (F0 m pc ls (.ref (b0 + k) :: rest)) := q_get (ci := 2) (r := (RX2, TX2, 8)) hexec hb hts hin hown hK hP hkN (cell_2 hk) rfl 5 (by decide) hlink (v := .null) (by rw [← rf_none (b0 := b0) hq]; rfl) hdg kk
theorem gf_2_6 (hexec : p.tables.exec = Jvm.exec) (hb : c.code = cc) (hts : ∀ w ∈ Ts, w.before args s = true) (hin : ∀ w ∈ wsX20, w ∈ Ts) (hown : s.vm.findClass own = some m.cls) (hK : va_K D vwCl (tysC cy) s) (hP : HP D cy b0 N S H) {k : Nat} (hkN : k < N) (hk : kd k = 2) {q : Nat} (hq : gR S k 6 = some q) (hlink : (Cond.fieldLink own index (TX2 6).1 (TX2 6).2.1 (TX2 6).2.2.1).before args s = true) (hdg : decode cc pc = .ok (.getfield index, 3)) (kk : W p l e R s m args below meth c H locs cells slots Q (F0 m (pc + 3) ls (.ref (b0 + q) :: rest))) : W p l e R s m args below meth c H locs cells slots Q (F0 m pc ls (.ref (b0 + k) :: rest)) := q_get (ci := 2) (r := (RX2, TX2, 8)) hexec hb hts hin hown hK hP hkN (cell_2 hk) rfl 6 (by decide) hlink (v := .ref (b0 + q)) (by rw [← rf_some hq]; rfl) hdg kk
theorem gn_2_6 (hexec : p.tables.exec = Jvm.exec) (hb : c.code = cc) (hts : ∀ w ∈ Ts, w.before args s = true) (hin : ∀ w ∈ wsX20, w ∈ Ts) (hown : s.vm.findClass own = some m.cls) (hK : va_K D vwCl (tysC cy) s) (hP : HP D cy b0 N S H) {k : Nat} (hkN : k < N) (hk : kd k = 2) (hq : gR S k 6 = none) (hlink : (Cond.fieldLink own index (TX2 6).1 (TX2 6).2.1 (TX2 6).2.2.1).before args s = true) (hdg : decode cc pc = .ok (.getfield index, 3)) (kk : W p l e R s m args below meth c H locs cells slots Q (F0 m (pc + 3) ls (.null :: rest))) : W p l e R s m args below meth c H locs cells slots Q (F0 m pc ls (.ref (b0 + k) :: rest)) := q_get (ci := 2) (r := (RX2, TX2, 8)) hexec hb hts hin hown hK hP hkN (cell_2 hk) rfl 6 (by decide) hlink (v := .null) (by rw [← rf_none (b0 := b0) hq]; rfl) hdg kk
theorem gf_2_7 (hexec : p.tables.exec = Jvm.exec) (hb : c.code = cc) (hts : ∀ w ∈ Ts, w.before args s = true) (hin : ∀ w ∈ wsX20, w ∈ Ts) (hown : s.vm.findClass own = some m.cls) (hK : va_K D vwCl (tysC cy) s) (hP : HP D cy b0 N S H) {k : Nat} (hkN : k < N) (hk : kd k = 2) {q : Nat} (hq : gR S k 7 = some q) (hlink : (Cond.fieldLink own index (TX2 7).1 (TX2 7).2.1 (TX2 7).2.2.1).before args s = true) (hdg : decode cc pc = .ok (.getfield index, 3)) (kk : W p l e R s m args below meth c H locs cells slots Q (F0 m (pc + 3) ls (.ref (b0 + q) :: rest))) : W p l e R s m args below meth c H locs cells slots Q (F0 m pc ls (.ref (b0 + k) :: rest)) := q_get (ci := 2) (r := (RX2, TX2, 8)) hexec hb hts hin hown hK hP hkN (cell_2 hk) rfl 7 (by decide) hlink (v := .ref (b0 + q)) (by rw [← rf_some hq]; rfl) hdg kk
theorem gn_2_7 (hexec : p.tables.exec = Jvm.exec) (hb : c.code = cc) (hts : ∀ w ∈ Ts, w.before args s = true) (hin : ∀ w ∈ wsX20, w ∈ Ts) (hown : s.vm.findClass own = some m.cls) (hK : va_K D vwCl (tysC cy) s) (hP : HP D cy b0 N S H) {k : Nat} (hkN : k < N) (hk : kd k = 2) (hq : gR S k 7 = none) (hlink : (Cond.fieldLink own index (TX2 7).1 (TX2 7).2.1 (TX2 7).2.2.1).before args s = true) (hdg : decode cc pc = .ok (.getfield index, 3)) (kk : W p l e R s m args below meth c H locs cells slots Q (F0 m (pc + 3) ls (.null :: rest))) : W p l e R s m args below meth c H locs cells slots Q (F0 m pc ls (.ref (b0 + k) :: rest)) := q_get (ci := 2) (r := (RX2, TX2, 8)) hexec hb hts hin hown hK hP hkN (cell_2 hk) rfl 7 (by decide) hlink (v := .null) (by rw [← rf_none (b0 := b0) hq]; rfl) hdg kk
theorem gf_3_0 (hexec : p.tables.exec = Jvm.exec) (hb : c.code = cc) (hts : ∀ w ∈ Ts, w.before args s = true) (hin : ∀ w ∈ wsX30, w ∈ Ts) (hown : s.vm.findClass own = some m.cls) (hK : va_K D vwCl (tysC cy) s) (hP : HP D cy b0 N S H) {k : Nat} (hkN : k < N) (hk : kd k = 3) (hlink : (Cond.fieldLink own index (TX3 0).1 (TX3 0).2.1 (TX3 0).2.2.1).before args s = true) (hdg : decode cc pc = .ok (.getfield index, 3)) (kk : W p l e R s m args below meth c H locs cells slots Q (F0 m (pc + 3) ls (.int (gI S k 0) :: rest))) : W p l e R s m args below meth c H locs cells slots Q (F0 m pc ls (.ref (b0 + k) :: rest)) := q_get (ci := 3) (r := (RX3, TX3, 5)) hexec hb hts hin hown hK hP hkN (cell_3 hk) rfl 0 (by decide) hlink rfl hdg kk
theorem gf_3_1 (hexec : p.tables.exec = Jvm.exec) (hb : c.code = cc) (hts : ∀ w ∈ Ts, w.before args s = true) (hin : ∀ w ∈ wsX30, w ∈ Ts) (hown : s.vm.findClass own = some m.cls) (hK : va_K D vwCl (tysC cy) s) (hP : HP D cy b0 N S H) {k : Nat} (hkN : k < N) (hk : kd k = 3) (hlink : (Cond.fieldLink own index (TX3 1).1 (TX3 1).2.1 (TX3 1).2.2.1).before args s = true) (hdg : decode cc pc = .ok (.getfield index, 3)) (kk : W p l e R s m args below meth c H locs cells slots Q (F0 m (pc + 3) ls (.int (gI S k 1) :: rest))) : W p l e R s m args below meth c H locs cells slots Q (F0 m pc ls (.ref (b0 + k) :: rest)) := q_get (ci := 3) (r := (RX3, TX3, 5)) hexec hb hts hin hown hK hP hkN (cell_3 hk) rfl 1 (by decide) hlink rfl hdg kk
theorem gf_3_2 (hexec : p.tables.exec = Jvm.exec) (hb : c.code = cc) (hts : ∀ w ∈ Ts, w.before args s = true) (hin : ∀ w ∈ wsX30, w ∈ Ts) (hown : s.vm.findClass own = some m.cls) (hK : va_K D vwCl (tysC cy) s) (hP : HP D cy b0 N S H) {k : Nat} (hkN : k < N) (hk : kd k = 3) (hlink : (Cond.fieldLink own index (TX3 2).1 (TX3 2).2.1 (TX3 2).2.2.1).before args s = true) (hdg : decode cc pc = .ok (.getfield index, 3)) (kk : W p l e R s m args below meth c H locs cells slots Q (F0 m (pc + 3) ls (.int (gI S k 2) :: rest))) : W p l e R s m args below meth c H locs cells slots Q (F0 m pc ls (.ref (b0 + k) :: rest)) := q_get (ci := 3) (r := (RX3, TX3, 5)) hexec hb hts hin hown hK hP hkN (cell_3 hk) rfl 2 (by decide) hlink rfl hdg kk
theorem gf_3_3 (hexec : p.tables.exec = Jvm.exec) (hb : c.code = cc) (hts : ∀ w ∈ Ts, w.before args s = true) (hin : ∀ w ∈ wsX30, w ∈ Ts) (hown : s.vm.findClass own = some m.cls) (hK : va_K D vwCl (tysC cy) s) (hP : HP D cy b0 N S H) {k : Nat} (hkN : k < N) (hk : kd k = 3) (hlink : (Cond.fieldLink own index (TX3 3).1 (TX3 3).2.1 (TX3 3).2.2.1).before args s = true) (hdg : decode cc pc = .ok (.getfield index, 3)) (kk : W p l e R s m args below meth c H locs cells slots Q (F0 m (pc + 3) ls (.int (gI S k 3) :: rest))) : W p l e R s m args below meth c H locs cells slots Q (F0 m pc ls (.ref (b0 + k) :: rest)) := q_get (ci := 3) (r := (RX3, TX3, 5)) hexec hb hts hin hown hK hP hkN (cell_3 hk) rfl 3 (by decide) hlink rfl hdg kk
theorem gf_3_4 (hexec : p.tables.exec = Jvm.exec) (hb : c.code = cc) (hts : ∀ w ∈ Ts, w.before args s = true) (hin : ∀ w ∈ wsX30, w ∈ Ts) (hown : s.vm.findClass own = some m.cls) (hK : va_K D vwCl (tysC cy) s) (hP : HP D cy b0 N S H) {k : Nat} (hkN : k < N) (hk : kd k = 3) (hlink : (Cond.fieldLink own index (TX3 4).1 (TX3 4).2.1 (TX3 4).2.2.1).before args s = true) (hdg : decode cc pc = .ok (.getfield index, 3)) (kk : W p l e R s m args below meth c H locs cells slots Q (F0 m (pc + 3) ls (.long (gJ S k 4) :: rest))) : W p l e R s m args below meth c H locs cells slots Q (F0 m pc ls (.ref (b0 + k) :: rest)) := q_get (ci := 3) (r := (RX3, TX3, 5)) hexec hb hts hin hown hK hP hkN (cell_3 hk) rfl 4 (by decide) hlink rfl hdg kk
theorem gf_4_0 (hexec : p.tables.exec = Jvm.exec) (hb : c.code = cc) (hts : ∀ w ∈ Ts, w.before args s = true) (hin : ∀ w ∈ wsX40, w ∈ Ts) (hown : s.vm.findClass own = some m.cls) (hK : va_K D vwCl (tysC cy) s) (hP : HP D cy b0 N S H) {k : Nat} (hkN : k < N) (hk : kd k = 4) {q : Nat} (hq : gR S k 0 = some q) (hlink : (Cond.fieldLink own index (TX4 0).1 (TX4 0).2.1 (TX4 0).2.2.1).before args s = true) (hdg : decode cc pc = .ok (.getfield index, 3)) (kk : W p l e R s m args below meth c H locs cells slots Q (F0 m (pc + 3) ls (.ref (b0 + q) :: rest))) : W p l e R s m args below meth c H locs cells slots Q (F0 m pc ls (.ref (b0 + k) :: rest)) := q_get (ci := 4) (r := (RX4, TX4, 13)) hexec hb hts hin hown hK hP hkN (cell_4 hk) rfl 0 (by decide) hlink (v := .ref (b0 + q)) (by rw [← rf_some hq]; rfl) hdg kk
theorem gn_4_0 (hexec : p.tables.exec = Jvm.exec) (hb : c.code = cc) (hts : ∀ w ∈ Ts, w.before args s = true) (hin : ∀ w ∈ wsX40, w ∈ Ts) (hown : s.vm.findClass own = some m.cls) (hK : va_K D vwCl (tysC cy) s) (hP : HP D cy b0 N S H) {k : Nat} (hkN : k < N) (hk : kd k = 4) (hq : gR S k 0 = none) (hlink : (Cond.fieldLink own index (TX4 0).1 (TX4 0).2.1 (TX4 0).2.2.1).before args s = true) (hdg : decode cc pc = .ok (.getfield index, 3)) (kk : W p l e R s m args below meth c H locs cells slots Q (F0 m (pc + 3) ls (.null :: rest))) : W p l e R s m args below meth c H locs cells slots Q (F0 m pc ls (.ref (b0 + k) :: rest)) := q_get (ci := 4) (r := (RX4, TX4, 13)) hexec hb hts hin hown hK hP hkN (cell_4 hk) rfl 0 (by decide) hlink (v := .null) (by rw [← rf_none (b0 := b0) hq]; rfl) hdg kk
theorem gf_4_1 (hexec : p.tables.exec = Jvm.exec) (hb : c.code = cc) (hts : ∀ w ∈ Ts, w.before args s = true) (hin : ∀ w ∈ wsX40, w ∈ Ts) (hown : s.vm.findClass own = some m.cls) (hK : va_K D vwCl (tysC cy) s) (hP : HP D cy b0 N S H) {k : Nat} (hkN : k < N) (hk : kd k = 4) {q : Nat} (hq : gR S k 1 = some q) (hlink : (Cond.fieldLink own index (TX4 1).1 (TX4 1).2.1 (TX4 1).2.2.1).before args s = true) (hdg : decode cc pc = .ok (.getfield index, 3)) (kk : W p l e R s m args below meth c H locs cells slots Q (F0 m (pc + 3) ls (.ref (b0 + q) :: rest))) : W p l e R s m args below meth c H locs cells slots Q (F0 m pc ls (.ref (b0 + k) :: rest)) := q_get (ci := 4) (r := (RX4, TX4, 13)) hexec hb hts hin hown hK hP hkN (cell_4 hk) rfl 1 (by decide) hlink (v := .ref (b0 + q)) (by rw [← rf_some hq]; rfl) hdg kk
theorem gn_4_1 (hexec : p.tables.exec = Jvm.exec) (hb : c.code = cc) (hts : ∀ w ∈ Ts, w.before args s = true) (hin : ∀ w ∈ wsX40, w ∈ Ts) (hown : s.vm.findClass own = some m.cls) (hK : va_K D vwCl (tysC cy) s) (hP : HP D cy b0 N S H) {k : Nat} (hkN : k < N) (hk : kd k = 4) (hq : gR S k 1 = none) (hlink : (Cond.fieldLink own index (TX4 1).1 (TX4 1).2.1 (TX4 1).2.2.1).before args s = true) (hdg : decode cc pc = .ok (.getfield index, 3)) (kk : W p l e R s m args below meth c H locs cells slots Q (F0 m (pc + 3) ls (.null :: rest))) : W p l e R s m args below meth c H locs cells slots Q (F0 m pc ls (.ref (b0 + k) :: rest)) := q_get (ci := 4) (r := (RX4, TX4, 13)) hexec hb hts hin hown hK hP hkN (cell_4 hk) rfl 1 (by decide) hlink (v := .null) (by rw [← rf_none (b0 := b0) hq]; rfl) hdg kk
theorem gf_4_2 (hexec : p.tables.exec = Jvm.exec) (hb : c.code = cc) (hts : ∀ w ∈ Ts, w.before args s = true) (hin : ∀ w ∈ wsX40, w ∈ Ts) (hown : s.vm.findClass own = some m.cls) (hK : va_K D vwCl (tysC cy) s) (hP : HP D cy b0 N S H) {k : Nat} (hkN : k < N) (hk : kd k = 4) {q : Nat} (hq : gR S k 2 = some q) (hlink : (Cond.fieldLink own index (TX4 2).1 (TX4 2).2.1 (TX4 2).2.2.1).before args s = true) (hdg : decode cc pc = .ok (.getfield index, 3)) (kk : W p l e R s m args below meth c H locs cells slots Q (F0 m (pc + 3) ls (.ref (b0 + q) :: rest))) : W p l e R s m args below meth c H locs cells slots Q (F0 m pc ls (.ref (b0 + k) :: rest)) := q_get (ci := 4) (r := (RX4, TX4, 13)) hexec hb hts hin hown hK hP hkN (cell_4 hk) rfl 2 (by decide) hlink (v := .ref (b0 + q)) (by rw [← rf_some hq]; rfl) hdg kk
theorem gn_4_2 (hexec : p.tables.exec = Jvm.exec) (hb : c.code = cc) (hts : ∀ w ∈ Ts, w.before args s = true) (hin : ∀ w ∈ wsX40, w ∈ Ts) (hown : s.vm.findClass own = some m.cls) (hK : va_K D vwCl (tysC cy) s) (hP : HP D cy b0 N S H) {k : Nat} (hkN : k < N) (hk : kd k = 4) (hq : gR S k 2 = none) (hlink : (Cond.fieldLink own index (TX4 2).1 (TX4 2).2.1 (TX4 2).2.2.1).before args s = true) (hdg : decode cc pc = .ok (.getfield index, 3)) (kk : W p l e R s m args below meth c H locs cells slots Q (F0 m (pc + 3) ls (.null :: rest))) : W p l e R s m args below meth c H locs cells slots Q (F0 m pc ls (.ref (b0 + k) :: rest)) := q_get (ci := 4) (r := (RX4, TX4, 13)) hexec hb hts hin hown hK hP hkN (cell_4 hk) rfl 2 (by decide) hlink (v := .null) (by rw [← rf_none (b0 := b0) hq]; rfl) hdg kk
theorem gf_4_3 (hexec : p.tables.exec = Jvm.exec) (hb : c.code = cc) (hts : ∀ w ∈ Ts, w.before args s = true) (hin : ∀ w ∈ wsX40, w ∈ Ts) (hown : s.vm.findClass own = some m.cls) (hK : va_K D vwCl (tysC cy) s) (hP : HP D cy b0 N S H) {k : Nat} (hkN : k < N) (hk : kd k = 4) {q : Nat} (hq : gR S k 3 = some q) (hlink : (Cond.fieldLink own index (TX4 3).1 (TX4 3).2.1 (TX4 3).2.2.1).before args s = true) (hdg : decode cc pc = .ok (.getfield index, 3)) (kk : W p l e R s m args below meth c H locs cells slots Q (F0 m (pc + 3) ls (.ref (b0 + q) :: rest))) : W p l e R s m args below meth c H locs cells slots Q (F0 m pc ls (.ref (b0 + k) :: rest)) := q_get (ci := 4) (r := (RX4, TX4, 13)) hexec hb hts hin hown hK hP hkN (cell_4 hk) rfl 3 (by decide) hlink (v := .ref (b0 + q)) (by rw [← rf_some hq]; rfl) hdg kk
theorem gn_4_3 (hexec : p.tables.exec = Jvm.exec) (hb : c.code = cc) (hts : ∀ w ∈ Ts, w.before args s = true) (hin : ∀ w ∈ wsX40, w ∈ Ts) (hown : s.vm.findClass own = some m.cls) (hK : va_K D vwCl (tysC cy) s) (hP : HP D cy b0 N S H) {k : Nat} (hkN : k < N) (hk : kd k = 4) (hq : gR S k 3 = none) (hlink : (Cond.fieldLink own index (TX4 3).1 (TX4 3).2.1 (TX4 3).2.2.1).before args s = true) (hdg : decode cc pc = .ok (.getfield index, 3)) (kk : W p l e R s m args below meth c H locs cells slots Q (F0 m (pc + 3) ls (.null :: rest))) : W p l e R s m args below meth c H locs cells slots Q (F0 m pc ls (.ref (b0 + k) :: rest)) := q_get (ci := 4) (r := (RX4, TX4, 13)) hexec hb hts hin hown hK hP hkN (cell_4 hk) rfl 3 (by decide) hlink (v := .null) (by rw [← rf_none (b0 := b0) hq]; rfl) hdg kk
theorem gf_4_4 (hexec : p.tables.exec = Jvm.exec) (hb : c.code = cc) (hts : ∀ w ∈ Ts, w.before args s = true) (hin : ∀ w ∈ wsX40, w ∈ Ts) (hown : s.vm.findClass own = some m.cls) (hK : va_K D vwCl (tysC cy) s) (hP : HP D cy b0 N S H) {k : Nat} (hkN : k < N) (hk : kd k = 4) (hlink : (Cond.fieldLink own index (TX4 4).1 (TX4 4).2.1 (TX4 4).2.2.1).before args s = true) (hdg : decode cc pc = .ok (.getfield index, 3)) (kk : W p l e R s m args below meth c H locs cells slots Q (F0 m (pc + 3) ls (.int (gI S k 4) :: rest))) : W p l e R s m args below meth c H locs cells slots Q (F0 m pc ls (.ref (b0 + k) :: rest)) := q_get (ci := 4) (r := (RX4, TX4, 13)) hexec hb hts hin hown hK hP hkN (cell_4 hk) rfl 4 (by decide) hlink rfl hdg kk
theorem gf_4_5 (hexec : p.tables.exec = Jvm.exec) (hb : c.code = cc) (hts : ∀ w ∈ Ts, w.before args s = true) (hin : ∀ w ∈ wsX40, w ∈ Ts) (hown : s.vm.findClass own = some m.cls) (hK : va_K D vwCl (tysC cy) s) (hP : HP D cy b0 N S H) {k : Nat} (hkN : k < N) (hk : kd k = 4) (hlink : (Cond.fieldLink own index (TX4 5).1 (TX4 5).2.1 (TX4 5).2.2.1).before args s = true) (hdg : decode cc pc = .ok (.getfield index, 3)) (kk : W p l e R s m args below meth c H locs cells slots Q (F0 m (pc + 3) ls (.int (gI S k 5) :: rest))) : W p l e R s m args below meth c H locs cells slots Q (F0 m pc ls (.ref (b0 + k) :: rest)) := q_get (ci := 4) (r := (RX4, TX4, 13)) hexec hb hts hin hown hK hP hkN (cell_4 hk) rfl 5 (by decide) hlink rfl hdg kk
theorem gf_4_6 (hexec : p.tables.exec = Jvm.exec) (hb : c.code = cc) (hts : ∀ w ∈ Ts, w.before args s = true) (hin : ∀ w ∈ wsX40, w ∈ Ts) (hown : s.vm.findClass own = some m.cls) (hK : va_K D vwCl (tysC cy) s) (hP : HP D cy b0 N S H) {k : Nat} (hkN : k < N) (hk : kd k = 4) (hlink : (Cond.fieldLink own index (TX4 6).1 (TX4 6).2.1 (TX4 6).2.2.1).before args s = true) (hdg : decode cc pc = .ok (.getfield index, 3)) (kk : W p l e R s m args below meth c H locs cells slots Q (F0 m (pc + 3) ls (.int (gI S k 6) :: rest))) : W p l e R s m args below meth c H locs cells slots Q (F0 m pc ls (.ref (b0 + k) :: rest)) := q_get (ci := 4) (r := (RX4, TX4, 13)) hexec hb hts hin hown hK hP hkN (cell_4 hk) rfl 6 (by decide) hlink rfl hdg kk
theorem gf_4_7 (hexec : p.tables.exec = Jvm.exec) (hb : c.code = cc) (hts : ∀ w ∈ Ts, w.before args s = true) (hin : ∀ w ∈ wsX40, w ∈ Ts) (hown : s.vm.findClass own = some m.cls) (hK : va_K D vwCl (tysC cy) s) (hP : HP D cy b0 N S H) {k : Nat} (hkN : k < N) (hk : kd k = 4) {q : Nat} (hq : gR S k 7 = some q) (hlink : (Cond.fieldLink own index (TX4 7).1 (TX4 7).2.1 (TX4 7).2.2.1).before args s = true) (hdg : decode cc pc = .ok (.getfield index, 3)) (kk : W p l e R s m args below meth c H locs cells slots Q (F0 m (pc + 3) ls (.ref (b0 + q) :: rest))) : W p l e R s m args below meth c H locs cells slots Q (F0 m pc ls (.ref (b0 + k) :: rest)) := q_get (ci := 4) (r := (RX4, TX4, 13)) hexec hb hts hin hown hK hP hkN (cell_4 hk) rfl 7 (by decide) hlink (v := .ref (b0 + q)) (by rw [← rf_some hq]; rfl) hdg kk
theorem gn_4_7 (hexec : p.tables.exec = Jvm.exec) (hb : c.code = cc) (hts : ∀ w ∈ Ts, w.before args s = true) (hin : ∀ w ∈ wsX40, w ∈ Ts) (hown : s.vm.findClass own = some m.cls) (hK : va_K D vwCl (tysC cy) s) (hP : HP D cy b0 N S H) {k : Nat} (hkN : k < N) (hk : kd k = 4) (hq : gR S k 7 = none) (hlink : (Cond.fieldLink own index (TX4 7).1 (TX4 7).2.1 (TX4 7).2.2.1).before args s = true) (hdg : decode cc pc = .ok (.getfield index, 3)) (kk : W p l e R s m args below meth c H locs cells slots Q (F0 m (pc + 3) ls (.null :: rest))) : W p l e R s m args below meth c H locs cells slots Q (F0 m pc ls (.ref (b0 + k) :: rest)) := q_get (ci := 4) (r := (RX4, TX4, 13)) hexec hb hts hin hown hK hP hkN (cell_4 hk) rfl 7 (by decide) hlink (v := .null) (by rw [← rf_none (b0 := b0) hq]; rfl) hdg kk
theorem gf_4_8 (hexec : p.tables.exec = Jvm.exec) (hb : c.code = cc) (hts : ∀ w ∈ Ts, w.before args s = true) (hin : ∀ w ∈ wsX40, w ∈ Ts) (hown : s.vm.findClass own = some m.cls) (hK : va_K D vwCl (tysC cy) s) (hP : HP D cy b0 N S H) {k : Nat} (hkN : k < N) (hk : kd k = 4) {q : Nat} (hq : gR S k 8 = some q) (hlink : (Cond.fieldLink own index (TX4 8).1 (TX4 8).2.1 (TX4 8).2.2.1).before args s = true) (hdg : decode cc pc = .ok (.getfield index, 3)) (kk : W p l e R s m args below meth c H locs cells slots Q (F0 m (pc + 3) ls (.ref (b0 + q) :: rest))) : W p l e R s m args below meth c H locs cells slots Q (F0 m pc ls (.ref (b0 + k) :: rest)) := q_get (ci := 4) (r := (RX4, TX4, 13)) hexec hb hts hin hown hK hP hkN (cell_4 hk) rfl 8 (by decide) hlink (v := .ref (b0 + q)) (by rw [← rf_some hq]; rfl) hdg kk
theorem gn_4_8 (hexec : p.tables.exec = Jvm.exec) (hb : c.code = cc) (hts : ∀ w ∈ Ts, w.before args s = true) (hin : ∀ w ∈ wsX40, w ∈ Ts) (hown : s.vm.findClass own = some m.cls) (hK : va_K D vwCl (tysC cy) s) (hP : HP D cy b0 N S H) {k : Nat} (hkN : k < N) (hk : kd k = 4) (hq : gR S k 8 = none) (hlink : (Cond.fieldLink own index (TX4 8).1 (TX4 8).2.1 (TX4 8).2.2.1).before args s = true) (hdg : decode cc pc = .ok (.getfield index, 3)) (kk : W p l e R s m args below meth c H locs cells slots Q (F0 m (pc + 3) ls (.null :: rest))) : W p l e R s m args below meth c H locs cells slots Q (F0 m pc ls (.ref (b0 + k) :: rest)) := q_get (ci := 4) (r := (RX4, TX4, 13)) hexec hb hts hin hown hK hP hkN (cell_4 hk) rfl 8 (by decide) hlink (v := .null) (by rw [← rf_none (b0 := b0) hq]; rfl) hdg kk
theorem gf_4_9 (hexec : p.tables.exec = Jvm.exec) (hb : c.code = cc) (hts : ∀ w ∈ Ts, w.before args s = true) (hin : ∀ w ∈ wsX40, w ∈ Ts) (hown : s.vm.findClass own = some m.cls) (hK : va_K D vwCl (tysC cy) s) (hP : HP D cy b0 N S H) {k : Nat} (hkN : k < N) (hk : kd k = 4) {q : Nat} (hq : gR S k 9 = some q) (hlink : (Cond.fieldLink own index (TX4 9).1 (TX4 9).2.1 (TX4 9).2.2.1).before args s = true) (hdg : decode cc pc = .ok (.getfield index, 3)) (kk : W p l e R s m args below meth c H locs cells slots Q (F0 m (pc + 3) ls (.ref (b0 + q) :: rest))) : W p l e R s m args below meth c H locs cells slots Q (F0 m pc ls (.ref (b0 + k) :: rest)) := q_get (ci := 4) (r := (RX4, TX4, 13)) hexec hb hts hin hown hK hP hkN (cell_4 hk) rfl 9 (by decide) hlink (v := .ref (b0 + q)) (by rw [← rf_some hq]; rfl) hdg kk
theorem gn_4_9 (hexec : p.tables.exec = Jvm.exec) (hb : c.code = cc) (hts : ∀ w ∈ Ts, w.before args s = true) (hin : ∀ w ∈ wsX40, w ∈ Ts) (hown : s.vm.findClass own = some m.cls) (hK : va_K D vwCl (tysC cy) s) (hP : HP D cy b0 N S H) {k : Nat} (hkN : k < N) (hk : kd k = 4) (hq : gR S k 9 = none) (hlink : (Cond.fieldLink own index (TX4 9).1 (TX4 9).2.1 (TX4 9).2.2.1).before args s = true) (hdg : decode cc pc = .ok (.getfield index, 3)) (kk : W p l e R s m args below meth c H locs cells slots Q (F0 m (pc + 3) ls (.null :: rest))) : W p l e R s m args below meth c H locs cells slots Q (F0 m pc ls (.ref (b0 + k) :: rest)) := q_get (ci := 4) (r := (RX4, TX4, 13)) hexec hb hts hin hown hK hP hkN (cell_4 hk) rfl 9 (by decide) hlink (v := .null) (by rw [← rf_none (b0 := b0) hq]; rfl) hdg kk
theorem gf_4_10 (hexec : p.tables.exec = Jvm.exec) (hb : c.code = cc) (hts : ∀ w ∈ Ts, w.before args s = true) (hin : ∀ w ∈ wsX40, w ∈ Ts) (hown : s.vm.findClass own = some m.cls) (hK : va_K D vwCl (tysC cy) s) (hP : HP D cy b0 N S H) {k : Nat} (hkN : k < N) (hk : kd k = 4) {q : Nat} (hq : gR S k 10 = some q) (hlink : (Cond.fieldLink own index (TX4 10).1 (TX4 10).2.1 (TX4 10).2.2.1).before args s = true) (hdg : decode cc pc = .ok (.getfield index, 3)) (kk : W p l e R s m args below meth c H locs cells slots Q (F0 m (pc + 3) ls (.ref (b0 + q) :: rest))) : W p l e R s m args below meth c H locs cells slots Q (F0 m pc ls (.ref (b0 + k) :: rest)) := q_get (ci := 4) (r := (RX4, TX4, 13)) hexec hb hts hin hown hK hP hkN (cell_4 hk) rfl 10 (by decide) hlink (v := .ref (b0 + q)) (by rw [← rf_some hq]; rfl) hdg kk
theorem gn_4_10 (hexec : p.tables.exec = Jvm.exec) (hb : c.code = cc) (hts : ∀ w ∈ Ts, w.before args s = true) (hin : ∀ w ∈ wsX40, w ∈ Ts) (hown : s.vm.findClass own = some m.cls) (hK : va_K D vwCl (tysC cy) s) (hP : HP D cy b0 N S H) {k : Nat} (hkN : k < N) (hk : kd k = 4) (hq : gR S k 10 = none) (hlink : (Cond.fieldLink own index (TX4 10).1 (TX4 10).2.1 (TX4 10).2.2.1).before args s = true) (hdg : decode cc pc = .ok (.getfield index, 3)) (kk : W p l e R s m args below meth c H locs cells slots Q (F0 m (pc + 3) ls (.null :: rest))) : W p l e R s m args below meth c H locs cells slots Q (F0 m pc ls (.ref (b0 + k) :: rest)) := q_get (ci := 4) (r := (RX4, TX4, 13)) hexec hb hts hin hown hK hP hkN (cell_4 hk) rfl 10 (by decide) hlink (v := .null) (by rw [← rf_none (b0 := b0) hq]; rfl) hdg kk
theorem gf_4_11 (hexec : p.tables.exec = Jvm.exec) (hb : c.code = cc) (hts : ∀ w ∈ Ts, w.before args s = true) (hin : ∀ w ∈ wsX40, w ∈ Ts) (hown : s.vm.findClass own = some m.cls) (hK : va_K D vwCl (tysC cy) s) (hP : HP D cy b0 N S H) {k : Nat} (hkN : k < N) (hk : kd k = 4) {q : Nat} (hq : gR S k 11 = some q) (hlink : (Cond.fieldLink own index (TX4 11).1 (TX4 11).2.1 (TX4 11).2.2.1).before args s = true) (hdg : decode cc pc = .ok (.getfield index, 3)) (kk : W p l e R s m args below meth c H locs cells slots Q (F0 m (pc + 3) ls (.ref (b0 + q) :: rest))) : W p l e R s m args below meth c H locs cells slots Q (F0 m pc ls (.ref (b0 + k) :: rest)) := q_get (ci := 4) (r := (RX4, TX4, 13)) hexec hb hts hin hown hK hP hkN (cell_4 hk) rfl 11 (by decide) hlink (v := .ref (b0 + q)) (by rw [← rf_some hq]; rfl) hdg kk
theorem gn_4_11 (hexec : p.tables.exec = Jvm.exec) (hb : c.code = cc) (hts : ∀ w ∈ Ts, w.before args s = true) (hin : ∀ w ∈ wsX40, w ∈ Ts) (hown : s.vm.findClass own = some m.cls) (hK : va_K D vwCl (tysC cy) s) (hP : HP D cy b0 N S H) {k : Nat} (hkN : k < N) (hk : kd k = 4) (hq : gR S k 11 = none) (hlink : (Cond.fieldLink own index (TX4 11).1 (TX4 11).2.1 (TX4 11).2.2.1).before args s = true) (hdg : decode cc pc = .ok (.getfield index, 3)) (kk : W p l e R s m args below meth c H locs cells slots Q (F0 m (pc + 3) ls (.null :: rest))) : W p l e R s m args below meth c H locs cells slots Q (F0 m pc ls (.ref (b0 + k) :: rest)) := q_get (ci := 4) (r := (RX4, TX4, 13)) hexec hb hts hin hown hK hP hkN (cell_4 hk) rfl 11 (by decide) hlink (v := .null) (by rw [← rf_none (b0 := b0) hq]; rfl) hdg kk
theorem gf_4_12 (hexec : p.tables.exec = Jvm.exec) (hb : c.code = cc) (hts : ∀ w ∈ Ts, w.before args s = true) (hin : ∀ w ∈ wsX40, w ∈ Ts) (hown : s.vm.findClass own = some m.cls) (hK : va_K D vwCl (tysC cy) s) (hP : HP D cy b0 N S H) {k : Nat} (hkN : k < N) (hk : kd k = 4) (hlink : (Cond.fieldLink own index (TX4 12).1 (TX4 12).2.1 (TX4 12).2.2.1).before args s = true) (hdg : decode cc pc = .ok (.getfield index, 3)) (kk : W p l e R s m args below meth c H locs cells slots Q (F0 m (pc + 3) ls (.int (gI S k 12) :: rest))) : W p l e R s m args below meth c H locs cells slots Q (F0 m pc ls (.ref (b0 + k) :: rest)) := q_get (ci := 4) (r := (RX4, TX4, 13)) hexec hb hts hin hown hK hP hkN (cell_4 hk) rfl 12 (by decide) hlink rfl hdg kk
theorem gf_5_0 (hexec : p.tables.exec = Jvm.exec) (hb : c.code = cc) (hts : ∀ w ∈ Ts, w.before args s = true) (hin : ∀ w ∈ wsX50, w ∈ Ts) (hown : s.vm.findClass own = some m.cls) (hK : va_K D vwCl (tysC cy) s) (hP : HP D cy b0 N S H) {k : Nat} (hkN : k < N) (hk : kd k = 5) {q : Nat} (hq : gR S k 0 = some q) (hlink : (Cond.fieldLink own index (TX5 0).1 (TX5 0).2.1 (TX5 0).2.2.1).before args s = true) (hdg : decode cc pc = .ok (.getfield index, 3)) (kk : W p l e R s m args below meth c H locs cells slots Q (F0 m (pc + 3) ls (.ref (b0 + q) :: rest))) : W p l e R s m args below meth c H locs cells slots Q (F0 m pc ls (.ref (b0 + k) :: rest)) := q_get (ci := 5) (r := (RX5, TX5, 8)) hexec hb hts hin hown hK hP hkN (cell_5 hk) rfl 0 (by decide) hlink (v := .ref (b0 + q)) (by rw [← rf_some hq]; rfl) hdg kk
theorem gn_5_0 (hexec : p.tables.exec = Jvm.exec) (hb : c.code = cc) (hts : ∀ w ∈ Ts, w.before args s = true) (hin : ∀ w ∈ wsX50, w ∈ Ts) (hown : s.vm.findClass own = some m.cls) (hK : va_K D vwCl (tysC cy) s) (hP : HP D cy b0 N S H) {k : Nat} (hkN : k < N) (hk : kd k = 5) (hq : gR S k 0 = none) (hlink : (Cond.fieldLink own index (TX5 0).1 (TX5 0).2.1 (TX5 0).2.2.1).before args s = true) (hdg : decode cc pc = .ok (.getfield index, 3)) (kk : W p l e R s m args below meth c H locs cells slots Q (F0 m (pc + 3) ls (.null :: rest))) : W p l e R s m args below meth c H locs cells slots Q (F0 m pc ls (.ref (b0 + k) :: rest)) := q_get (ci := 5) (r := (RX5, TX5, 8)) hexec hb hts hin hown hK hP hkN (cell_5 hk) rfl 0 (by decide) hlink (v := .null) (by rw [← rf_none (b0 := b0) hq]; rfl) hdg kk
theorem gf_5_1 (hexec : p.tables.exec = Jvm.exec) (hb : c.code = cc) (hts : ∀ w ∈ Ts, w.before args s = true) (hin : ∀ w ∈ wsX50, w ∈ Ts) (hown : s.vm.findClass own = some m.cls) (hK : va_K D vwCl (tysC cy) s) (hP : HP D cy b0 N S H) {k : Nat} (hkN : k < N) (hk : kd k = 5) {q : Nat} (hq : gR S k 1 = some q) (hlink : (Cond.fieldLink own index (TX5 1).1 (TX5 1).2.1 (TX5 1).2.2.1).before args s = true) (hdg : decode cc pc = .ok (.getfield index, 3)) (kk : W p l e R s m args below meth c H locs cells slots Q (F0 m (pc + 3) ls (.ref (b0 + q) :: rest))) : W p l e R s m args below meth c H locs cells slots Q (F0 m pc ls (.ref (b0 + k) :: rest)) := q_get (ci := 5) (r := (RX5, TX5, 8)) hexec hb hts hin hown hK hP hkN (cell_5 hk) rfl 1 (by decide) hlink (v := .ref (b0 + q)) (by rw [← rf_some hq]; rfl) hdg kk
theorem gn_5_1 (hexec : p.tables.exec = Jvm.exec) (hb : c.code = cc) (hts : ∀ w ∈ Ts, w.before args s = true) (hin : ∀ w ∈ wsX50, w ∈ Ts) (hown : s.vm.findClass own = some m.cls) (hK : va_K D vwCl (tysC cy) s) (hP : HP D cy b0 N S H) {k : Nat} (hkN : k < N) (hk : kd k = 5) (hq : gR S k 1 = none) (hlink : (Cond.fieldLink own index (TX5 1).1 (TX5 1).2.1 (TX5 1).2.2.1).before args s = true) (hdg : decode cc pc = .ok (.getfield index, 3)) (kk : W p l e R s m args below meth c H locs cells slots Q (F0 m (pc + 3) ls (.null :: rest))) : W p l e R s m args below meth c H locs cells slots Q (F0 m pc ls (.ref (b0 + k) :: rest)) := q_get (ci := 5) (r := (RX5, TX5, 8)) hexec hb hts hin hown hK hP hkN (cell_5 hk) rfl 1 (by decide) hlink (v := .null) (by rw [← rf_none (b0 := b0) hq]; rfl) hdg kk
theorem gf_5_2 (hexec : p.tables.exec = Jvm.exec) (hb : c.code = cc) (hts : ∀ w ∈ Ts, w.before args s = true) (hin : ∀ w ∈ wsX50, w ∈ Ts) (hown : s.vm.findClass own = some m.cls) (hK : va_K D vwCl (tysC cy) s) (hP : HP D cy b0 N S H) {k : Nat} (hkN : k < N) (hk : kd k = 5) {q : Nat} (hq : gR S k 2 = some q) (hlink : (Cond.fieldLink own index (TX5 2).1 (TX5 2).2.1 (TX5 2).2.2.1).before args s = true) (hdg : decode cc pc = .ok (.getfield index, 3)) (kk : W p l e R s m args below meth c H locs cells slots Q (F0 m (pc + 3) ls (.ref (b0 + q) :: rest))) : W p l e R s m args below meth c H locs cells slots Q (F0 m pc ls (.ref (b0 + k) :: rest)) := q_get (ci := 5) (r := (RX5, TX5, 8)) hexec hb hts hin hown hK hP hkN (cell_5 hk) rfl 2 (by decide) hlink (v := .ref (b0 + q)) (by rw [← rf_some hq]; rfl) hdg kk
theorem gn_5_2 (hexec : p.tables.exec = Jvm.exec) (hb : c.code = cc) (hts : ∀ w ∈ Ts, w.before args s = true) (hin : ∀ w ∈ wsX50, w ∈ Ts) (hown : s.vm.findClass own = some m.cls) (hK : va_K D vwCl (tysC cy) s) (hP : HP D cy b0 N S H) {k : Nat} (hkN : k < N) (hk : kd k = 5) (hq : gR S k 2 = none) (hlink : (Cond.fieldLink own index (TX5 2).1 (TX5 2).2.1 (TX5 2).2.2.1).before args s = true) (hdg : decode cc pc = .ok (.getfield index, 3)) (kk : W p l e R s m args below meth c H locs cells slots Q (F0 m (pc + 3) ls (.null :: rest))) : W p l e R s m args below meth c H locs cells slots Q (F0 m pc ls (.ref (b0 + k) :: rest)) := q_get (ci := 5) (r := (RX5, TX5, 8)) hexec hb hts hin hown hK hP hkN (cell_5 hk) rfl 2 (by decide) hlink (v := .null) (by rw [← rf_none (b0 := b0) hq]; rfl) hdg kk
theorem gf_5_3 (hexec : p.tables.exec = Jvm.exec) (hb : c.code = cc) (hts : ∀ w ∈ Ts, w.before args s = true) (hin : ∀ w ∈ wsX50, w ∈ Ts) (hown : s.vm.findClass own = some m.cls) (hK : va_K D vwCl (tysC cy) s) (hP : HP D cy b0 N S H) {k : Nat} (hkN : k < N) (hk : kd k = 5) {q : Nat} (hq : gR S k 3 = some q) (hlink : (Cond.fieldLink own index (TX5 3).1 (TX5 3).2.1 (TX5 3).2.2.1).before args s = true) (hdg : decode cc pc = .ok (.getfield index, 3)) (kk : W p l e R s m args below meth c H locs cells slots Q (F0 m (pc + 3) ls (.ref (b0 + q) :: rest))) : W p l e R s m args below meth c H locs cells slots Q (F0 m pc ls (.ref (b0 + k) :: rest)) := q_get (ci := 5) (r := (RX5, TX5, 8)) hexec hb hts hin hown hK hP hkN (cell_5 hk) rfl 3 (by decide) hlink (v := .ref (b0 + q)) (by rw [← rf_some hq]; rfl) hdg kk
theorem gn_5_3 (hexec : p.tables.exec = Jvm.exec) (hb : c.code = cc) (hts : ∀ w ∈ Ts, w.before args s = true) (hin : ∀ w ∈ wsX50, w ∈ Ts) (hown : s.vm.findClass own = some m.cls) (hK : va_K D vwCl (tysC cy) s) (hP : HP D cy b0 N S H) {k : Nat} (hkN : k < N) (hk : kd k = 5) (hq : gR S k 3 = none) (hlink : (Cond.fieldLink own index (TX5 3).1 (TX5 3).2.1 (TX5 3).2.2.1).before args s = true) (hdg : decode cc pc = .ok (.getfield index, 3)) (kk : W p l e R s m args below meth c H locs cells slots Q (F0 m (pc + 3) ls (.null :: rest))) : W p l e R s m args below meth c H locs cells slots Q (F0 m pc ls (.ref (b0 + k) :: rest)) := q_get (ci := 5) (r := (RX5, TX5, 8)) hexec hb hts hin hown hK hP hkN (cell_5 hk) rfl 3 (by decide) hlink (v := .null) (by rw [← rf_none (b0 := b0) hq]; rfl) hdg kk
theorem gf_5_4 (hexec : p.tables.exec = Jvm.exec) (hb : c.code = cc) (hts : ∀ w ∈ Ts, w.before args s = true) (hin : ∀ w ∈ wsX50, w ∈ Ts) (hown : s.vm.findClass own = some m.cls) (hK : va_K D vwCl (tysC cy) s) (hP : HP D cy b0 N S H) {k : Nat} (hkN : k < N) (hk : kd k = 5) (hlink : (Cond.fieldLink own index (TX5 4).1 (TX5 4).2.1 (TX5 4).2.2.1).before args s = true) (hdg : decode cc pc = .ok (.getfield index, 3)) (kk : W p l e R s m args below meth c H locs cells slots Q (F0 m (pc + 3) ls (.int (gI S k 4) :: rest))) : W p l e R s m args below meth c H locs cells slots Q (F0 m pc ls (.ref (b0 + k) :: rest)) := q_get (ci := 5) (r := (RX5, TX5, 8)) hexec hb hts hin hown hK hP hkN (cell_5 hk) rfl 4 (by decide) hlink rfl hdg kk
theorem gf_5_5 (hexec : p.tables.exec = Jvm.exec) (hb : c.code = cc) (hts : ∀ w ∈ Ts, w.before args s = true) (hin : ∀ w ∈ wsX50, w ∈ Ts) (hown : s.vm.findClass own = some m.cls) (hK : va_K D vwCl (tysC cy) s) (hP : HP D cy b0 N S H) {k : Nat} (hkN : k < N) (hk : kd k = 5) {q : Nat} (hq : gR S k 5 = some q) (hlink : (Cond.fieldLink own index (TX5 5).1 (TX5 5).2.1 (TX5 5).2.2.1).before args s = true) (hdg : decode cc pc = .ok (.getfield index, 3)) (kk : W p l e R s m args below meth c H locs cells slots Q (F0 m (pc + 3) ls (.ref (b0 + q) :: rest))) : W p l e R s m args below meth c H locs cells slots Q (F0 m pc ls (.ref (b0 + k) :: rest)) := q_get (ci := 5) (r := (RX5, TX5, 8)) hexec hb hts hin hown hK hP hkN (cell_5 hk) rfl 5 (by decide) hlink (v := .ref (b0 + q)) (by rw [← rf_some hq]; rfl) hdg kk
theorem gn_5_5 (hexec : p.tables.exec = Jvm.exec) (hb : c.code = cc) (hts : ∀ w ∈ Ts, w.before args s = true) (hin : ∀ w ∈ wsX50, w ∈ Ts) (hown : s.vm.findClass own = some m.cls) (hK : va_K D vwCl (tysC cy) s) (hP : HP D cy b0 N S H) {k : Nat} (hkN : k < N) (hk : kd k = 5) (hq : gR S k 5 = none) (hlink : (Cond.fieldLink own index (TX5 5).1 (TX5 5).2.1 (TX5 5).2.2.1).before args s = true) (hdg : decode cc pc = .ok (.getfield index, 3)) (kk : W p l e R s m args below meth c H locs cells slots Q (F0 m (pc + 3) ls (.null :: rest))) : W p l e R s m args below meth c H locs cells slots Q (F0 m pc ls (.ref (b0 + k) :: rest)) := q_get (ci := 5) (r := (RX5, TX5, 8)) hexec hb hts hin hown hK hP hkN (cell_5 hk) rfl 5 (by decide) hlink (v := .null) (by rw [← rf_none (b0 := b0) hq]; rfl) hdg kk
theorem gf_5_6 (hexec : p.tables.exec = Jvm.exec) (hb : c.code = cc) (hts : ∀ w ∈ Ts, w.before args s = true) (hin : ∀ w ∈ wsX50, w ∈ Ts) (hown : s.vm.findClass own = some m.cls) (hK : va_K D vwCl (tysC cy) s) (hP : HP D cy b0 N S H) {k : Nat} (hkN : k < N) (hk : kd k = 5) {q : Nat} (hq : gR S k 6 = some q) (hlink : (Cond.fieldLink own index (TX5 6).1 (TX5 6).2.1 (TX5 6).2.2.1).before args s = true) (hdg : decode cc pc = .ok (.getfield index, 3)) (kk : W p l e R s m args below meth c H locs cells slots Q (F0 m (pc + 3) ls (.ref (b0 + q) :: rest))) : W p l e R s m args below meth c H locs cells slots Q (F0 m pc ls (.ref (b0 + k) :: rest)) := q_get (ci := 5) (r := (RX5, TX5, 8)) hexec hb hts hin hown hK hP hkN (cell_5 hk) rfl 6 (by decide) hlink (v := .ref (b0 + q)) (by rw [← rf_some hq]; rfl) hdg kk
theorem gn_5_6 (hexec : p.tables.exec = Jvm.exec) (hb : c.code = cc) (hts : ∀ w ∈ Ts, w.before args s = true) (hin : ∀ w ∈ wsX50, w ∈ Ts) (hown : s.vm.findClass own = some m.cls) (hK : va_K D vwCl (tysC cy) s) (hP : HP D cy b0 N S H) {k : Nat} (hkN : k < N) (hk : kd k = 5) (hq : gR S k 6 = none) (hlink : (Cond.fieldLink own index (TX5 6).1 (TX5 6).2.1 (TX5 6).2.2.1).before args s = true) (hdg : decode cc pc = .ok (.getfield index, 3)) (kk : W p l e R s m args below meth c H locs cells slots Q (F0 m (pc + 3) ls (.null :: rest))) : W p l e R s m args below meth c H locs cells slots Q (F0 m pc ls (.ref (b0 + k) :: rest)) := q_get (ci := 5) (r := (RX5, TX5, 8)) hexec hb hts hin hown hK hP hkN (cell_5 hk) rfl 6 (by decide) hlink (v := .null) (by rw [← rf_none (b0 := b0) hq]; rfl) hdg kk
theorem gf_5_7 (hexec : p.tables.exec = Jvm.exec) (hb : c.code = cc) (hts : ∀ w ∈ Ts, w.before args s = true) (hin : ∀ w ∈ wsX50, w ∈ Ts) (hown : s.vm.findClass own = some m.cls) (hK : va_K D vwCl (tysC cy) s) (hP : HP D cy b0 N S H) {k : Nat} (hkN : k < N) (hk : kd k = 5) (hlink : (Cond.fieldLink own index (TX5 7).1 (TX5 7).2.1 (TX5 7).2.2.1).before args s = true) (hdg : decode cc pc = .ok (.getfield index, 3)) (kk : W p l e R s m args below meth c H locs cells slots Q (F0 m (pc + 3) ls (.int (gI S k 7) :: rest))) : W p l e R s m args below meth c H locs cells slots Q (F0 m pc ls (.ref (b0 + k) :: rest)) := q_get (ci := 5) (r := (RX5, TX5, 8)) hexec hb hts hin hown hK hP hkN (cell_5 hk) rfl 7 (by decide) hlink rfl hdg kk
theorem gf_6_0 (hexec : p.tables.exec = Jvm.exec) (hb : c.code = cc) (hts : ∀ w ∈ Ts, w.before args s = true) (hin : ∀ w ∈ wsX60, w ∈ Ts) (hown : s.vm.findClass own = some m.cls) (hK : va_K D vwCl (tysC cy) s) (hP : HP D cy b0 N S H) {k : Nat} (hkN : k < N) (hk : kd k = 6) (hlink : (Cond.fieldLink own index (TX6 0).1 (TX6 0).2.1 (TX6 0).2.2.1).before args s = true) (hdg : decode cc pc = .ok (.getfield index, 3)) (kk : W p l e R s m args below meth c H locs cells slots Q (F0 m (pc + 3) ls (.int (gI S k 0) :: rest))) : W p l e R s m args below meth c H locs cells slots Q (F0 m pc ls (.ref (b0 + k) :: rest)) := q_get (ci := 6) (r := (RX6, TX6, 28)) hexec hb hts hin hown hK hP hkN (cell_6 hk) rfl 0 (by decide) hlink rfl hdg kk
theorem gf_6_1 (hexec : p.tables.exec = Jvm.exec) (hb : c.code = cc) (hts : ∀ w ∈ Ts, w.before args s = true) (hin : ∀ w ∈ wsX60, w ∈ Ts) (hown : s.vm.findClass own = some m.cls) (hK : va_K D vwCl (tysC cy) s) (hP : HP D cy b0 N S H) {k : Nat} (hkN : k < N) (hk : kd k = 6) (hlink : (Cond.fieldLink own index (TX6 1).1 (TX6 1).2.1 (TX6 1).2.2.1).before args s = true) (hdg : decode cc pc = .ok (.getfield index, 3)) (kk : W p l e R s m args below meth c H locs cells slots Q (F0 m (pc + 3) ls (.int (gI S k 1) :: rest))) : W p l e R s m args below meth c H locs cells slots Q (F0 m pc ls (.ref (b0 + k) :: rest)) := q_get (ci := 6) (r := (RX6, TX6, 28)) hexec hb hts hin hown hK hP hkN (cell_6 hk) rfl 1 (by decide) hlink rfl hdg kk
theorem gf_6_2 (hexec : p.tables.exec = Jvm.exec) (hb : c.code = cc) (hts : ∀ w ∈ Ts, w.before args s = true) (hin : ∀ w ∈ wsX60, w ∈ Ts) (hown : s.vm.findClass own = some m.cls) (hK : va_K D vwCl (tysC cy) s) (hP : HP D cy b0 N S H) {k : Nat} (hkN : k < N) (hk : kd k = 6) (hlink : (Cond.fieldLink own index (TX6 2).1 (TX6 2).2.1 (TX6 2).2.2.1).before args s = true) (hdg : decode cc pc = .ok (.getfield index, 3)) (kk : W p l e R s m args below meth c H locs cells slots Q (F0 m (pc + 3) ls (.int (gI S k 2) :: rest))) : W p l e R s m args below meth c H locs cells slots Q (F0 m pc ls (.ref (b0 + k) :: rest)) := q_get (ci := 6) (r := (RX6, TX6, 28)) hexec hb hts hin hown hK hP hkN (cell_6 hk) rfl 2 (by decide) hlink rfl hdg kk
theorem gf_6_3 (hexec : p.tables.exec = Jvm.exec) (hb : c.code = cc) (hts : ∀ w ∈ Ts, w.before args s = true) (hin : ∀ w ∈ wsX60, w ∈ Ts) (hown : s.vm.findClass own = some m.cls) (hK : va_K D vwCl (tysC cy) s) (hP : HP D cy b0 N S H) {k : Nat} (hkN : k < N) (hk : kd k = 6) (hlink : (Cond.fieldLink own index (TX6 3).1 (TX6 3).2.1 (TX6 3).2.2.1).before args s = true) (hdg : decode cc pc = .ok (.getfield index, 3)) (kk : W p l e R s m args below meth c H locs cells slots Q (F0 m (pc + 3) ls (.int (gI S k 3) :: rest))) : W p l e R s m args below meth c H locs cells slots Q (F0 m pc ls (.ref (b0 + k) :: rest)) := q_get (ci := 6) (r := (RX6, TX6, 28)) hexec hb hts hin hown hK hP hkN (cell_6 hk) rfl 3 (by decide) hlink rfl hdg kk
theorem gf_6_4 (hexec : p.tables.exec = Jvm.exec) (hb : c.code = cc) (hts : ∀ w ∈ Ts, w.before args s = true) (hin : ∀ w ∈ wsX60, w ∈ Ts) (hown : s.vm.findClass own = some m.cls) (hK : va_K D vwCl (tysC cy) s) (hP : HP D cy b0 N S H) {k : Nat} (hkN : k < N) (hk : kd k = 6) {q : Nat} (hq : gR S k 4 = some q) (hlink : (Cond.fieldLink own index (TX6 4).1 (TX6 4).2.1 (TX6 4).2.2.1).before args s = true) (hdg : decode cc pc = .ok (.getfield index, 3)) (kk : W p l e R s m args below meth c H locs cells slots Q (F0 m (pc + 3) ls (.ref (b0 + q) :: rest))) : W p l e R s m args below meth c H locs cells slots Q (F0 m pc ls (.ref (b0 + k) :: rest)) := q_get (ci := 6) (r := (RX6, TX6, 28)) hexec hb hts hin hown hK hP hkN (cell_6 hk) rfl 4 (by decide) hlink (v := .ref (b0 + q)) (by rw [← rf_some hq]; rfl) hdg kk
theorem gn_6_4 (hexec : p.tables.exec = Jvm.exec) (hb : c.code = cc) (hts : ∀ w ∈ Ts, w.before args s = true) (hin : ∀ w ∈ wsX60, w ∈ Ts) (hown : s.vm.findClass own = some m.cls) (hK : va_K D vwCl (tysC cy) s) (hP : HP D cy b0 N S H) {k : Nat} (hkN : k < N) (hk : kd k = 6) (hq : gR S k 4 = none) (hlink : (Cond.fieldLink own index (TX6 4).1 (TX6 4).2.1 (TX6 4).2.2.1).before args s = true) (hdg : decode cc pc = .ok (.getfield index, 3)) (kk : W p l e R s m args below meth c H locs cells slots Q (F0 m (pc + 3) ls (.null :: rest))) : W p l e R s m args below meth c H locs cells slots Q (F0 m pc ls (.ref (b0 + k) :: rest)) := q_get (ci := 6) (r := (RX6, TX6, 28)) hexec hb hts hin hown hK hP hkN (cell_6 hk) rfl 4 (by decide) hlink (v := .null) (by rw [← rf_none (b0 := b0) hq]; rfl) hdg kk
theorem gf_6_5 (hexec : p.tables.exec = Jvm.exec) (hb : c.code = cc) (hts : ∀ w ∈ Ts, w.before args s = true) (hin : ∀ w ∈ wsX60, w ∈ Ts) (hown : s.vm.findClass own = some m.cls) (hK : va_K D vwCl (tysC cy) s) (hP : HP D cy b0 N S H) {k : Nat} (hkN : k < N) (hk : kd k = 6) {q : Nat} (hq : gR S k 5 = some q) (hlink : (Cond.fieldLink own index (TX6 5).1 (TX6 5).2.1 (TX6 5).2.2.1).before args s = true) (hdg : decode cc pc = .ok (.getfield index, 3)) (kk : W p l e R s m args below meth c H locs cells slots Q (F0 m (pc + 3) ls (.ref (b0 + q) :: rest))) : W p l e R s m args below meth c H locs cells slots Q (F0 m pc ls (.ref (b0 + k) :: rest)) := q_get (ci := 6) (r := (RX6, TX6, 28)) hexec hb hts hin hown hK hP hkN (cell_6 hk) rfl 5 (by decide) hlink (v := .ref (b0 + q)) (by rw [← rf_some hq]; rfl) hdg kk
theorem gn_6_5 (hexec : p.tables.exec = Jvm.exec) (hb : c.code = cc) (hts : ∀ w ∈ Ts, w.before args s = true) (hin : ∀ w ∈ wsX60, w ∈ Ts) (hown : s.vm.findClass own = some m.cls) (hK : va_K D vwCl (tysC cy) s) (hP : HP D cy b0 N S H) {k : Nat} (hkN : k < N) (hk : kd k = 6) (hq : gR S k 5 = none) (hlink : (Cond.fieldLink own index (TX6 5).1 (TX6 5).2.1 (TX6 5).2.2.1).before args s = true) (hdg : decode cc pc = .ok (.getfield index, 3)) (kk : W p l e R s m args below meth c H locs cells slots Q (F0 m (pc + 3) ls (.null :: rest))) : W p l e R s m args below meth c H locs cells slots Q (F0 m pc ls (.ref (b0 + k) :: rest)) := q_get (ci := 6) (r := (RX6, TX6, 28)) hexec hb hts hin hown hK hP hkN (cell_6 hk) rfl 5 (by decide) hlink (v := .null) (by rw [← rf_none (b0 := b0) hq]; rfl) hdg kk
theorem gf_6_6 (hexec : p.tables.exec = Jvm.exec) (hb : c.code = cc) (hts : ∀ w ∈ Ts, w.before args s = true) (hin : ∀ w ∈ wsX60, w ∈ Ts) (hown : s.vm.findClass own = some m.cls) (hK : va_K D vwCl (tysC cy) s) (hP : HP D cy b0 N S H) {k : Nat} (hkN : k < N) (hk : kd k = 6) {q : Nat} (hq : gR S k 6 = some q) (hlink : (Cond.fieldLink own index (TX6 6).1 (TX6 6).2.1 (TX6 6).2.2.1).before args s = true) (hdg : decode cc pc = .ok (.getfield index, 3)) (kk : W p l e R s m args below meth c H locs cells slots Q (F0 m (pc + 3) ls (.ref (b0 + q) :: rest))) : W p l e R s m args below meth c H locs cells slots Q (F0 m pc ls (.ref (b0 + k) :: rest)) := q_get (ci := 6) (r := (RX6, TX6, 28)) hexec hb hts hin hown hK hP hkN (cell_6 hk) rfl 6 (by decide) hlink (v := .ref (b0 + q)) (by rw [← rf_some hq]; rfl) hdg kk
theorem gn_6_6 (hexec : p.tables.exec = Jvm.exec) (hb : c.code = cc) (hts : ∀ w ∈ Ts, w.before args s = true) (hin : ∀ w ∈ wsX60, w ∈ Ts) (hown : s.vm.findClass own = some m.cls) (hK : va_K D vwCl (tysC cy) s) (hP : HP D cy b0 N S H) {k : Nat} (hkN : k < N) (hk : kd k = 6) (hq : gR S k 6 = none) (hlink : (Cond.fieldLink own index (TX6 6).1 (TX6 6).2.1 (TX6 6).2.2.1).before args s = true) (hdg : decode cc pc = .ok (.getfield index, 3)) (kk : W p l e R s m args below meth c H locs cells slots Q (F0 m (pc + 3) ls (.null :: rest))) : W p l e R s m args below meth c H locs cells slots Q (F0 m pc ls (.ref (b0 + k) :: rest)) := q_get (ci := 6) (r := (RX6, TX6, 28)) hexec hb hts hin hown hK hP hkN (cell_6 hk) rfl 6 (by decide) hlink (v := .null) (by rw [← rf_none (b0 := b0) hq]; rfl) hdg kk
theorem gf_6_7 (hexec : p.tables.exec = Jvm.exec) (hb : c.code = cc) (hts : ∀ w ∈ Ts, w.before args s = true) (hin : ∀ w ∈ wsX60, w ∈ Ts) (hown : s.vm.findClass own = some m.cls) (hK : va_K D vwCl (tysC cy) s) (hP : HP D cy b0 N S H) {k : Nat} (hkN : k < N) (hk : kd k = 6) {q : Nat} (hq : gR S k 7 = some q) (hlink : (Cond.fieldLink own index (TX6 7).1 (TX6 7).2.1 (TX6 7).2.2.1).before args s = true) (hdg : decode cc pc = .ok (.getfield index, 3)) (kk : W p l e R s m args below meth c H locs cells slots Q (F0 m (pc + 3) ls (.ref (b0 + q) :: rest))) : W p l e R s m args below meth c H locs cells slots Q (F0 m pc ls (.ref (b0 + k) :: rest)) := q_get (ci := 6) (r := (RX6, TX6, 28)) hexec hb hts hin hown hK hP hkN (cell_6 hk) rfl 7 (by decide) hlink (v := .ref (b0 + q)) (by rw [← rf_some hq]; rfl) hdg kk
theorem gn_6_7 (hexec : p.tables.exec = Jvm.exec) (hb : c.code = cc) (hts : ∀ w ∈ Ts, w.before args s = true) (hin : ∀ w ∈ wsX60, w ∈ Ts) (hown : s.vm.findClass own = some m.cls) (hK : va_K D vwCl (tysC cy) s) (hP : HP D cy b0 N S H) {k : Nat} (hkN : k < N) (hk : kd k = 6) (hq : gR S k 7 = none) (hlink : (Cond.fieldLink own index (TX6 7).1 (TX6 7).2.1 (TX6 7).2.2.1).before args s = true) (hdg : decode cc pc = .ok (.getfield index, 3)) (kk : W p l e R s m args below meth c H locs cells slots Q (F0 m (pc + 3) ls (.null :: rest))) : W p l e R s m args below meth c H locs cells slots Q (F0 m pc ls (.ref (b0 + k) :: rest)) := q_get (ci := 6) (r := (RX6, TX6, 28)) hexec hb hts hin hown hK hP hkN (cell_6 hk) rfl 7 (by decide) hlink (v := .null) (by rw [← rf_none (b0 := b0) hq]; rfl) hdg kk
theorem gf_6_8 (hexec : p.tables.exec = Jvm.exec) (hb : c.code = cc) (hts : ∀ w ∈ Ts, w.before args s = true) (hin : ∀ w ∈ wsX60, w ∈ Ts) (hown : s.vm.findClass own = some m.cls) (hK : va_K D vwCl (tysC cy) s) (hP : HP D cy b0 N S H) {k : Nat} (hkN : k < N) (hk : kd k = 6) {q : Nat} (hq : gR S k 8 = some q) (hlink : (Cond.fieldLink own index (TX6 8).1 (TX6 8).2.1 (TX6 8).2.2.1).before args s = true) (hdg : decode cc pc = .ok (.getfield index, 3)) (kk : W p l e R s m args below meth c H locs cells slots Q (F0 m (pc + 3) ls (.ref (b0 + q) :: rest))) : W p l e R s m args below meth c H locs cells slots Q (F0 m pc ls (.ref (b0 + k) :: rest)) := q_get (ci := 6) (r := (RX6, TX6, 28)) hexec hb hts hin hown hK hP hkN (cell_6 hk) rfl 8 (by decide) hlink (v := .ref (b0 + q)) (by rw [← rf_some hq]; rfl) hdg kk
theorem gn_6_8 (hexec : p.tables.exec = Jvm.exec) (hb : c.code = cc) (hts : ∀ w ∈ Ts, w.before args s = true) (hin : ∀ w ∈ wsX60, w ∈ Ts) (hown : s.vm.findClass own = some m.cls) (hK : va_K D vwCl (tysC cy) s) (hP : HP D cy b0 N S H) {k : Nat} (hkN : k < N) (hk : kd k = 6) (hq : gR S k 8 = none) (hlink : (Cond.fieldLink own index (TX6 8).1 (TX6 8).2.1 (TX6 8).2.2.1).before args s = true) (hdg : decode cc pc = .ok (.getfield index, 3)) (kk : W p l e R s m args below meth c H locs cells slots Q (F0 m (pc + 3) ls (.null :: rest))) : W p l e R s m args below meth c H locs cells slots Q (F0 m pc ls (.ref (b0 + k) :: rest)) := q_get (ci := 6) (r := (RX6, TX6, 28)) hexec hb hts hin hown hK hP hkN (cell_6 hk) rfl 8 (by decide) hlink (v := .null) (by rw [← rf_none (b0 := b0) hq]; rfl) hdg kk
theorem gf_6_9 (hexec : p.tables.exec = Jvm.exec) (hb : c.code = cc) (hts : ∀ w ∈ Ts, w.before args s = true) (hin : ∀ w ∈ wsX60, w ∈ Ts) (hown : s.vm.findClass own = some m.cls) (hK : va_K D vwCl (tysC cy) s) (hP : HP D cy b0 N S H) {k : Nat} (hkN : k < N) (hk : kd k = 6) {q : Nat} (hq : gR S k 9 = some q) (hlink : (Cond.fieldLink own index (TX6 9).1 (TX6 9).2.1 (TX6 9).2.2.1).before args s = true) (hdg : decode cc pc = .ok (.getfield index, 3)) (kk : W p l e R s m args below meth c H locs cells slots Q (F0 m (pc + 3) ls (.ref (b0 + q) :: rest))) : W p l e R s m args below meth c H locs cells slots Q (F0 m pc ls (.ref (b0 + k) :: rest)) := q_get (ci := 6) (r := (RX6, TX6, 28)) hexec hb hts hin hown hK hP hkN (cell_6 hk) rfl 9 (by decide) hlink (v := .ref (b0 + q)) (by rw [← rf_some hq]; rfl) hdg kk
theorem gn_6_9 (hexec : p.tables.exec = Jvm.exec) (hb : c.code = cc) (hts : ∀ w ∈ Ts, w.before args s = true) (hin : ∀ w ∈ wsX60, w ∈ Ts) (hown : s.vm.findClass own = some m.cls) (hK : va_K D vwCl (tysC cy) s) (hP : HP D cy b0 N S H) {k : Nat} (hkN : k < N) (hk : kd k = 6) (hq : gR S k 9 = none) (hlink : (Cond.fieldLink own index (TX6 9).1 (TX6 9).2.1 (TX6 9).2.2.1).before args s = true) (hdg : decode cc pc = .ok (.getfield index, 3)) (kk : W p l e R s m args below meth c H locs cells slots Q (F0 m (pc + 3) ls (.null :: rest))) : W p l e R s m args below meth c H locs cells slots Q (F0 m pc ls (.ref (b0 + k) :: rest)) := q_get (ci := 6) (r := (RX6, TX6, 28)) hexec hb hts hin hown hK hP hkN (cell_6 hk) rfl 9 (by decide) hlink (v := .null) (by rw [← rf_none (b0 := b0) hq]; rfl) hdg kk
theorem gf_6_10 (hexec : p.tables.exec = Jvm.exec) (hb : c.code = cc) (hts : ∀ w ∈ Ts, w.before args s = true) (hin : ∀ w ∈ wsX60, w ∈ Ts) (hown : s.vm.findClass own = some m.cls) (hK : va_K D vwCl (tysC cy) s) (hP : HP D cy b0 N S H) {k : Nat} (hkN : k < N) (hk : kd k = 6) (hlink : (Cond.fieldLink own index (TX6 10).1 (TX6 10).2.1 (TX6 10).2.2.1).before args s = true) (hdg : decode cc pc = .ok (.getfield index, 3)) (kk : W p l e R s m args below meth c H locs cells slots Q (F0 m (pc + 3) ls (.int (gI S k 10) :: rest))) : W p l e R s m args below meth c H locs cells slots Q (F0 m pc ls (.ref (b0 + k) :: rest)) := q_get (ci := 6) (r := (RX6, TX6, 28)) hexec hb hts hin hown hK hP hkN (cell_6 hk) rfl 10 (by decide) hlink rfl hdg kk
theorem gf_6_11 (hexec : p.tables.exec = Jvm.exec) (hb : c.code = cc) (hts : ∀ w ∈ Ts, w.before args s = true) (hin : ∀ w ∈ wsX60, w ∈ Ts) (hown : s.vm.findClass own = some m.cls) (hK : va_K D vwCl (tysC cy) s) (hP : HP D cy b0 N S H) {k : Nat} (hkN : k < N) (hk : kd k = 6) {q : Nat} (hq : gR S k 11 = some q) (hlink : (Cond.fieldLink own index (TX6 11).1 (TX6 11).2.1 (TX6 11).2.2.1).before args s = true) (hdg : decode cc pc = .ok (.getfield index, 3)) (kk : W p l e R s m args below meth c H locs cells slots Q (F0 m (pc + 3) ls (.ref (b0 + q) :: rest))) : W p l e R s m args below meth c H locs cells slots Q (F0 m pc ls (.ref (b0 + k) :: rest)) := q_get (ci := 6) (r := (RX6, TX6, 28)) hexec hb hts hin hown hK hP hkN (cell_6 hk) rfl 11 (by decide) hlink (v := .ref (b0 + q)) (by rw [← rf_some hq]; rfl) hdg kk
theorem gn_6_11 (hexec : p.tables.exec = Jvm.exec) (hb : c.code = cc) (hts : ∀ w ∈ Ts, w.before args s = true) (hin : ∀ w ∈ wsX60, w ∈ Ts) (hown : s.vm.findClass own = some m.cls) (hK : va_K D vwCl (tysC cy) s) (hP : HP D cy b0 N S H) {k : Nat} (hkN : k < N) (hk : kd k = 6) (hq : gR S k 11 = none) (hlink : (Cond.fieldLink own index (TX6 11).1 (TX6 11).2.1 (TX6 11).2.2.1).before args s = true) (hdg : decode cc pc = .ok (.getfield index, 3)) (kk : W p l e R s m args below meth c H locs cells slots Q (F0 m (pc + 3) ls (.null :: rest))) : W p l e R s m args below meth c H locs cells slots Q (F0 m pc ls (.ref (b0 + k) :: rest)) := q_get (ci := 6) (r := (RX6, TX6, 28)) hexec hb hts hin hown hK hP hkN (cell_6 hk) rfl 11 (by decide) hlink (v := .null) (by rw [← rf_none (b0 := b0) hq]; rfl) hdg kk
theorem gf_6_12 (hexec : p.tables.exec = Jvm.exec) (hb : c.code = cc) (hts : ∀ w ∈ Ts, w.before args s = true) (hin : ∀ w ∈ wsX60, w ∈ Ts) (hown : s.vm.findClass own = some m.cls) (hK : va_K D vwCl (tysC cy) s) (hP : HP D cy b0 N S H) {k : Nat} (hkN : k < N) (hk : kd k = 6) {q : Nat} (hq : gR S k 12 = some q) (hlink : (Cond.fieldLink own index (TX6 12).1 (TX6 12).2.1 (TX6 12).2.2.1).before args s = true) (hdg : decode cc pc = .ok (.getfield index, 3)) (kk : W p l e R s m args below meth c H locs cells slots Q (F0 m (pc + 3) ls (.ref (b0 + q) :: rest))) : W p l e R s m args below meth c H locs cells slots Q (F0 m pc ls (.ref (b0 + k) :: rest)) := q_get (ci := 6) (r := (RX6, TX6, 28)) hexec hb hts hin hown hK hP hkN (cell_6 hk) rfl 12 (by decide) hlink (v := .ref (b0 + q)) (by rw [← rf_some hq]; rfl) hdg kk
theorem gn_6_12 (hexec : p.tables.exec = Jvm.exec) (hb : c.code = cc) (hts : ∀ w ∈ Ts, w.before args s = true) (hin : ∀ w ∈ wsX60, w ∈ Ts) (hown : s.vm.findClass own = some m.cls) (hK : va_K D vwCl (tysC cy) s) (hP : HP D cy b0 N S H) {k : Nat} (hkN : k < N) (hk : kd k = 6) (hq : gR S k 12 = none) (hlink : (Cond.fieldLink own index (TX6 12).1 (TX6 12).2.1 (TX6 12).2.2.1).before args s = true) (hdg : decode cc pc = .ok (.getfield index, 3)) (kk : W p l e R s m args below meth c H locs cells slots Q (F0 m (pc + 3) ls (.null :: rest))) : W p l e R s m args below meth c H locs cells slots Q (F0 m pc ls (.ref (b0 + k) :: rest)) := q_get (ci := 6) (r := (RX6, TX6, 28)) hexec hb hts hin hown hK hP hkN (cell_6 hk) rfl 12 (by decide) hlink (v := .null) (by rw [← rf_none (b0 := b0) hq]; rfl) hdg kk
theorem gf_6_13 (hexec : p.tables.exec = Jvm.exec) (hb : c.code = cc) (hts : ∀ w ∈ Ts, w.before args s = true) (hin : ∀ w ∈ wsX60, w ∈ Ts) (hown : s.vm.findClass own = some m.cls) (hK : va_K D vwCl (tysC cy) s) (hP : HP D cy b0 N S H) {k : Nat} (hkN : k < N) (hk : kd k = 6) (hlink : (Cond.fieldLink own index (TX6 13).1 (TX6 13).2.1 (TX6 13).2.2.1).before args s = true) (hdg : decode cc pc = .ok (.getfield index, 3)) (kk : W p l e R s m args below meth c H locs cells slots Q (F0 m (pc + 3) ls (.int (gI S k 13) :: rest))) : W p l e R s m args below meth c H locs cells slots Q (F0 m pc ls (.ref (b0 + k) :: rest)) := q_get (ci := 6) (r := (RX6, TX6, 28)) hexec hb hts hin hown hK hP hkN (cell_6 hk) rfl 13 (by decide) hlink rfl hdg kk
theorem gf_6_14 (hexec : p.tables.exec = Jvm.exec) (hb : c.code = cc) (hts : ∀ w ∈ Ts, w.before args s = true) (hin : ∀ w ∈ wsX60, w ∈ Ts) (hown : s.vm.findClass own = some m.cls) (hK : va_K D vwCl (tysC cy) s) (hP : HP D cy b0 N S H) {k : Nat} (hkN : k < N) (hk : kd k = 6) {q : Nat} (hq : gR S k 14 = some q) (hlink : (Cond.fieldLink own index (TX6 14).1 (TX6 14).2.1 (TX6 14).2.2.1).before args s = true) (hdg : decode cc pc = .ok (.getfield index, 3)) (kk : W p l e R s m args below meth c H locs cells slots Q (F0 m (pc + 3) ls (.ref (b0 + q) :: rest))) : W p l e R s m args below meth c H locs cells slots Q (F0 m pc ls (.ref (b0 + k) :: rest)) := q_get (ci := 6) (r := (RX6, TX6, 28)) hexec hb hts hin hown hK hP hkN (cell_6 hk) rfl 14 (by decide) hlink (v := .ref (b0 + q)) (by rw [← rf_some hq]; rfl) hdg kk
theorem gn_6_14 (hexec : p.tables.exec = Jvm.exec) (hb : c.code = cc) (hts : ∀ w ∈ Ts, w.before args s = true) (hin : ∀ w ∈ wsX60, w ∈ Ts) (hown : s.vm.findClass own = some m.cls) (hK : va_K D vwCl (tysC cy) s) (hP : HP D cy b0 N S H) {k : Nat} (hkN : k < N) (hk : kd k = 6) (hq : gR S k 14 = none) (hlink : (Cond.fieldLink own index (TX6 14).1 (TX6 14).2.1 (TX6 14).2.2.1).before args s = true) (hdg : decode cc pc = .ok (.getfield index, 3)) (kk : W p l e R s m args below meth c H locs cells slots Q (F0 m (pc + 3) ls (.null :: rest))) : W p l e R s m args below meth c H locs cells slots Q (F0 m pc ls (.ref (b0 + k) :: rest)) := q_get (ci := 6) (r := (RX6, TX6, 28)) hexec hb hts hin hown hK hP hkN (cell_6 hk) rfl 14 (by decide) hlink (v := .null) (by rw [← rf_none (b0 := b0) hq]; rfl) hdg kk
theorem gf_6_15 (hexec : p.tables.exec = Jvm.exec) (hb : c.code = cc) (hts : ∀ w ∈ Ts, w.before args s = true) (hin : ∀ w ∈ wsX60, w ∈ Ts) (hown : s.vm.findClass own = some m.cls) (hK : va_K D vwCl (tysC cy) s) (hP : HP D cy b0 N S H) {k : Nat} (hkN : k < N) (hk : kd k = 6) {q : Nat} (hq : gR S k 15 = some q) (hlink : (Cond.fieldLink own index (TX6 15).1 (TX6 15).2.1 (TX6 15).2.2.1).before args s = true) (hdg : decode cc pc = .ok (.getfield index, 3)) (kk : W p l e R s m args below meth c H locs cells slots Q (F0 m (pc + 3) ls (.ref (b0 + q) :: rest))) : W p l e R s m args below meth c H locs cells slots Q (F0 m pc ls (.ref (b0 + k) :: rest)) := q_get (ci := 6) (r := (RX6, TX6, 28)) hexec hb hts hin hown hK hP hkN (cell_6 hk) rfl 15 (by decide) hlink (v := .ref (b0 + q)) (by rw [← rf_some hq]; rfl) hdg kk
theorem gn_6_15 (hexec : p.tables.exec = Jvm.exec) (hb : c.code = cc) (hts : ∀ w ∈ Ts, w.before args s = true) (hin : ∀ w ∈ wsX60, w ∈ Ts) (hown : s.vm.findClass own = some m.cls) (hK : va_K D vwCl (tysC cy) s) (hP : HP D cy b0 N S H) {k : Nat} (hkN : k < N) (hk : kd k = 6) (hq : gR S k 15 = none) (hlink : (Cond.fieldLink own index (TX6 15).1 (TX6 15).2.1 (TX6 15).2.2.1).before args s = true) (hdg : decode cc pc = .ok (.getfield index, 3)) (kk : W p l e R s m args below meth c H locs cells slots Q (F0 m (pc + 3) ls (.null :: rest))) : W p l e R s m args below meth c H locs cells slots Q (F0 m pc ls (.ref (b0 + k) :: rest)) := q_get (ci := 6) (r := (RX6, TX6, 28)) hexec hb hts hin hown hK hP hkN (cell_6 hk) rfl 15 (by decide) hlink (v := .null) (by rw [← rf_none (b0 := b0) hq]; rfl) hdg kk
theorem gf_6_16 (hexec : p.tables.exec = Jvm.exec) (hb : c.code = cc) (hts : ∀ w ∈ Ts, w.before args s = true) (hin : ∀ w ∈ wsX60, w ∈ Ts) (hown : s.vm.findClass own = some m.cls) (hK : va_K D vwCl (tysC cy) s) (hP : HP D cy b0 N S H) {k : Nat} (hkN : k < N) (hk : kd k = 6) {q : Nat} (hq : gR S k 16 = some q) (hlink : (Cond.fieldLink own index (TX6 16).1 (TX6 16).2.1 (TX6 16).2.2.1).before args s = true) (hdg : decode cc pc = .ok (.getfield index, 3)) (kk : W p l e R s m args below meth c H locs cells slots Q (F0 m (pc + 3) ls (.ref (b0 + q) :: rest))) : W p l e R s m args below meth c H locs cells slots Q (F0 m pc ls (.ref (b0 + k) :: rest)) := q_get (ci := 6) (r := (RX6, TX6, 28)) hexec hb hts hin hown hK hP hkN (cell_6 hk) rfl 16 (by decide) hlink (v := .ref (b0 + q)) (by rw [← rf_some hq]; rfl) hdg kk
theorem gn_6_16 (hexec : p.tables.exec = Jvm.exec) (hb : c.code = cc) (hts : ∀ w ∈ Ts, w.before args s = true) (hin : ∀ w ∈ wsX60, w ∈ Ts) (hown : s.vm.findClass own = some m.cls) (hK : va_K D vwCl (tysC cy) s) (hP : HP D cy b0 N S H) {k : Nat} (hkN : k < N) (hk : kd k = 6) (hq : gR S k 16 = none) (hlink : (Cond.fieldLink own index (TX6 16).1 (TX6 16).2.1 (TX6 16).2.2.1).before args s = true) (hdg : decode cc pc = .ok (.getfield index, 3)) (kk : W p l e R s m args below meth c H locs cells slots Q (F0 m (pc + 3) ls (.null :: rest))) : W p l e R s m args below meth c H locs cells slots Q (F0 m pc ls (.ref (b0 + k) :: rest)) := q_get (ci := 6) (r := (RX6, TX6, 28)) hexec hb hts hin hown hK hP hkN (cell_6 hk) rfl 16 (by decide) hlink (v := .null) (by rw [← rf_none (b0 := b0) hq]; rfl) hdg kk
theorem gf_6_17 (hexec : p.tables.exec = Jvm.exec) (hb : c.code = cc) (hts : ∀ w ∈ Ts, w.before args s = true) (hin : ∀ w ∈ wsX60, w ∈ Ts) (hown : s.vm.findClass own = some m.cls) (hK : va_K D vwCl (tysC cy) s) (hP : HP D cy b0 N S H) {k : Nat} (hkN : k < N) (hk : kd k = 6) {q : Nat} (hq : gR S k 17 = some q) (hlink : (Cond.fieldLink own index (TX6 17).1 (TX6 17).2.1 (TX6 17).2.2.1).before args s = true) (hdg : decode cc pc = .ok (.getfield index, 3)) (kk : W p l e R s m args below meth c H locs cells slots Q (F0 m (pc + 3) ls (.ref (b0 + q) :: rest))) : W p l e R s m args below meth c H locs cells slots Q (F0 m pc ls (.ref (b0 + k) :: rest)) := q_get (ci := 6) (r := (RX6, TX6, 28)) hexec hb hts hin hown hK hP hkN (cell_6 hk) rfl 17 (by decide) hlink (v := .ref (b0 + q)) (by rw [← rf_some hq]; rfl) hdg kk
theorem gn_6_17 (hexec : p.tables.exec = Jvm.exec) (hb : c.code = cc) (hts : ∀ w ∈ Ts, w.before args s = true) (hin : ∀ w ∈ wsX60, w ∈ Ts) (hown : s.vm.findClass own = some m.cls) (hK : va_K D vwCl (tysC cy) s) (hP : HP D cy b0 N S H) {k : Nat} (hkN : k < N) (hk : kd k = 6) (hq : gR S k 17 = none) (hlink : (Cond.fieldLink own index (TX6 17).1 (TX6 17).2.1 (TX6 17).2.2.1).before args s = true) (hdg : decode cc pc = .ok (.getfield index, 3)) (kk : W p l e R s m args below meth c H locs cells slots Q (F0 m (pc + 3) ls (.null :: rest))) : W p l e R s m args below meth c H locs cells slots Q (F0 m pc ls (.ref (b0 + k) :: rest)) := q_get (ci := 6) (r := (RX6, TX6, 28)) hexec hb hts hin hown hK hP hkN (cell_6 hk) rfl 17 (by decide) hlink (v := .null) (by rw [← rf_none (b0 := b0) hq]; rfl) hdg kk
theorem gf_6_18 (hexec : p.tables.exec = Jvm.exec) (hb : c.code = cc) (hts : ∀ w ∈ Ts, w.before args s = true) (hin : ∀ w ∈ wsX60, w ∈ Ts) (hown : s.vm.findClass own = some m.cls) (hK : va_K D vwCl (tysC cy) s) (hP : HP D cy b0 N S H) {k : Nat} (hkN : k < N) (hk : kd k = 6) {q : Nat} (hq : gR S k 18 = some q) (hlink : (Cond.fieldLink own index (TX6 18).1 (TX6 18).2.1 (TX6 18).2.2.1).before args s = true) (hdg : decode cc pc = .ok (.getfield index, 3)) (kk : W p l e R s m args below meth c H locs cells slots Q (F0 m (pc + 3) ls (.ref (b0 + q) :: rest))) : W p l e R s m args below meth c H locs cells slots Q (F0 m pc ls (.ref (b0 + k) :: rest)) := q_get (ci := 6) (r := (RX6, TX6, 28)) hexec hb hts hin hown hK hP hkN (cell_6 hk) rfl 18 (by decide) hlink (v := .ref (b0 + q)) (by rw [← rf_some hq]; rfl) hdg kk
theorem gn_6_18 (hexec : p.tables.exec = Jvm.exec) (hb : c.code = cc) (hts : ∀ w ∈ Ts, w.before args s = true) (hin : ∀ w ∈ wsX60, w ∈ Ts) (hown : s.vm.findClass own = some m.cls) (hK : va_K D vwCl (tysC cy) s) (hP : HP D cy b0 N S H) {k : Nat} (hkN : k < N) (hk : kd k = 6) (hq : gR S k 18 = none) (hlink : (Cond.fieldLink own index (TX6 18).1 (TX6 18).2.1 (TX6 18).2.2.1).before args s = true) (hdg : decode cc pc = .ok (.getfield index, 3)) (kk : W p l e R s m args below meth c H locs cells slots Q (F0 m (pc + 3) ls (.null :: rest))) : W p l e R s m args below meth c H locs cells slots Q (F0 m pc ls (.ref (b0 + k) :: rest)) := q_get (ci := 6) (r := (RX6, TX6, 28)) hexec hb hts hin hown hK hP hkN (cell_6 hk) rfl 18 (by decide) hlink (v := .null) (by rw [← rf_none (b0 := b0) hq]; rfl) hdg kk
theorem gf_6_19 (hexec : p.tables.exec = Jvm.exec) (hb : c.code = cc) (hts : ∀ w ∈ Ts, w.before args s = true) (hin : ∀ w ∈ wsX60, w ∈ Ts) (hown : s.vm.findClass own = some m.cls) (hK : va_K D vwCl (tysC cy) s) (hP : HP D cy b0 N S H) {k : Nat} (hkN : k < N) (hk : kd k = 6) {q : Nat} (hq : gR S k 19 = some q) (hlink : (Cond.fieldLink own index (TX6 19).1 (TX6 19).2.1 (TX6 19).2.2.1).before args s = true) (hdg : decode cc pc = .ok (.getfield index, 3)) (kk : W p l e R s m args below meth c H locs cells slots Q (F0 m (pc + 3) ls (.ref (b0 + q) :: rest))) : W p l e R s m args below meth c H locs cells slots Q (F0 m pc ls (.ref (b0 + k) :: rest)) := q_get (ci := 6) (r := (RX6, TX6, 28)) hexec hb hts hin hown hK hP hkN (cell_6 hk) rfl 19 (by decide) hlink (v := .ref (b0 + q)) (by rw [← rf_some hq]; rfl) hdg kk
theorem gn_6_19 (hexec : p.tables.exec = Jvm.exec) (hb : c.code = cc) (hts : ∀ w ∈ Ts, w.before args s = true) (hin : ∀ w ∈ wsX60, w ∈ Ts) (hown : s.vm.findClass own = some m.cls) (hK : va_K D vwCl (tysC cy) s) (hP : HP D cy b0 N S H) {k : Nat} (hkN : k < N) (hk : kd k = 6) (hq : gR S k 19 = none) (hlink : (Cond.fieldLink own index (TX6 19).1 (TX6 19).2.1 (TX6 19).2.2.1).before args s = true) (hdg : decode cc pc = .ok (.getfield index, 3)) (kk : W p l e R s m args below meth c H locs cells slots Q (F0 m (pc + 3) ls (.null :: rest))) : W p l e R s m args below meth c H locs cells slots Q (F0 m pc ls (.ref (b0 + k) :: rest)) := q_get (ci := 6) (r := (RX6, TX6, 28)) hexec hb hts hin hown hK hP hkN (cell_6 hk) rfl 19 (by decide) hlink (v := .null) (by rw [← rf_none (b0 := b0) hq]; rfl) hdg kk
theorem gf_6_20 (hexec : p.tables.exec = Jvm.exec) (hb : c.code = cc) (hts : ∀ w ∈ Ts, w.before args s = true) (hin : ∀ w ∈ wsX60, w ∈ Ts) (hown : s.vm.findClass own = some m.cls) (hK : va_K D vwCl (tysC cy) s) (hP : HP D cy b0 N S H) {k : Nat} (hkN : k < N) (hk : kd k = 6) {q : Nat} (hq : gR S k 20 = some q) (hlink : (Cond.fieldLink own index (TX6 20).1 (TX6 20).2.1 (TX6 20).2.2.1).before args s = true) (hdg : decode cc pc = .ok (.getfield index, 3)) (kk : W p l e R s m args below meth c H locs cells slots Q (F0 m (pc + 3) ls (.ref (b0 + q) :: rest))) : W p l e R s m args below meth c H locs cells slots Q (F0 m pc ls (.ref (b0 + k) :: rest)) := q_get (ci := 6) (r := (RX6, TX6, 28)) hexec hb hts hin hown hK hP hkN (cell_6 hk) rfl 20 (by decide) hlink (v := .ref (b0 + q)) (by rw [← rf_some hq]; rfl) hdg kk
theorem gn_6_20 (hexec : p.tables.exec = Jvm.exec) (hb : c.code = cc) (hts : ∀ w ∈ Ts, w.before args s = true) (hin : ∀ w ∈ wsX60, w ∈ Ts) (hown : s.vm.findClass own = some m.cls) (hK : va_K D vwCl (tysC cy) s) (hP : HP D cy b0 N S H) {k : Nat} (hkN : k < N) (hk : kd k = 6) (hq : gR S k 20 = none) (hlink : (Cond.fieldLink own index (TX6 20).1 (TX6 20).2.1 (TX6 20).2.2.1).before args s = true) (hdg : decode cc pc = .ok (.getfield index, 3)) (kk : W p l e R s m args below meth c H locs cells slots Q (F0 m (pc + 3) ls (.null :: rest))) : W p l e R s m args below meth c H locs cells slots Q (F0 m pc ls (.ref (b0 + k) :: rest)) := q_get (ci := 6) (r := (RX6, TX6, 28)) hexec hb hts hin hown hK hP hkN (cell_6 hk) rfl 20 (by decide) hlink (v := .null) (by rw [← rf_none (b0 := b0) hq]; rfl) hdg kk
theorem gf_6_21 (hexec : p.tables.exec = Jvm.exec) (hb : c.code = cc) (hts : ∀ w ∈ Ts, w.before args s = true) (hin : ∀ w ∈ wsX60, w ∈ Ts) (hown : s.vm.findClass own = some m.cls) (hK : va_K D vwCl (tysC cy) s) (hP : HP D cy b0 N S H) {k : Nat} (hkN : k < N) (hk : kd k = 6) {q : Nat} (hq : gR S k 21 = some q) (hlink : (Cond.fieldLink own index (TX6 21).1 (TX6 21).2.1 (TX6 21).2.2.1).before args s = true) (hdg : decode cc pc = .ok (.getfield index, 3)) (kk : W p l e R s m args below meth c H locs cells slots Q (F0 m (pc + 3) ls (.ref (b0 + q) :: rest))) : W p l e R s m args below meth c H locs cells slots Q (F0 m pc ls (.ref (b0 + k) :: rest)) := q_get (ci := 6) (r := (RX6, TX6, 28)) hexec hb hts hin hown hK hP hkN (cell_6 hk) rfl 21 (by decide) hlink (v := .ref (b0 + q)) (by rw [← rf_some hq]; rfl) hdg kk
theorem gn_6_21 (hexec : p.tables.exec = Jvm.exec) (hb : c.code = cc) (hts : ∀ w ∈ Ts, w.before args s = true) (hin : ∀ w ∈ wsX60, w ∈ Ts) (hown : s.vm.findClass own = some m.cls) (hK : va_K D vwCl (tysC cy) s) (hP : HP D cy b0 N S H) {k : Nat} (hkN : k < N) (hk : kd k = 6) (hq : gR S k 21 = none) (hlink : (Cond.fieldLink own index (TX6 21).1 (TX6 21).2.1 (TX6 21).2.2.1).before args s = true) (hdg : decode cc pc = .ok (.getfield index, 3)) (kk : W p l e R s m args below meth c H locs cells slots Q (F0 m (pc + 3) ls (.null :: rest))) : W p l e R s m args below meth c H locs cells slots Q (F0 m pc ls (.ref (b0 + k) :: rest)) := q_get (ci := 6) (r := (RX6, TX6, 28)) hexec hb hts hin hown hK hP hkN (cell_6 hk) rfl 21 (by decide) hlink (v := .null) (by rw [← rf_none (b0 := b0) hq]; rfl) hdg kk
theorem gf_6_22 (hexec : p.tables.exec = Jvm.exec) (hb : c.code = cc) (hts : ∀ w ∈ Ts, w.before args s = true) (hin : ∀ w ∈ wsX60, w ∈ Ts) (hown : s.vm.findClass own = some m.cls) (hK : va_K D vwCl (tysC cy) s) (hP : HP D cy b0 N S H) {k : Nat} (hkN : k < N) (hk : kd k = 6) {q : Nat} (hq : gR S k 22 = some q) (hlink : (Cond.fieldLink own index (TX6 22).1 (TX6 22).2.1 (TX6 22).2.2.1).before args s = true) (hdg : decode cc pc = .ok (.getfield index, 3)) (kk : W p l e R s m args below meth c H locs cells slots Q (F0 m (pc + 3) ls (.ref (b0 + q) :: rest))) : W p l e R s m args below meth c H locs cells slots Q (F0 m pc ls (.ref (b0 + k) :: rest)) := q_get (ci := 6) (r := (RX6, TX6, 28)) hexec hb hts hin hown hK hP hkN (cell_6 hk) rfl 22 (by decide) hlink (v := .ref (b0 + q)) (by rw [← rf_some hq]; rfl) hdg kk
theorem gn_6_22 (hexec : p.tables.exec = Jvm.exec) (hb : c.code = cc) (hts : ∀ w ∈ Ts, w.before args s = true) (hin : ∀ w ∈ wsX60, w ∈ Ts) (hown : s.vm.findClass own = some m.cls) (hK : va_K D vwCl (tysC cy) s) (hP : HP D cy b0 N S H) {k : Nat} (hkN : k < N) (hk : kd k = 6) (hq : gR S k 22 = none) (hlink : (Cond.fieldLink own index (TX6 22).1 (TX6 22).2.1 (TX6 22).2.2.1).before args s = true) (hdg : decode cc pc = .ok (.getfield index, 3)) (kk : W p l e R s m args below meth c H locs cells slots Q (F0 m (pc + 3) ls (.null :: rest))) : W p l e R s m args below meth c H locs cells slots Q (F0 m pc ls (.ref (b0 + k) :: rest)) := q_get (ci := 6) (r := (RX6, TX6, 28)) hexec hb hts hin hown hK hP hkN (cell_6 hk) rfl 22 (by decide) hlink (v := .null) (by rw [← rf_none (b0 := b0) hq]; rfl) hdg kk
theorem gf_6_23 (hexec : p.tables.exec = Jvm.exec) (hb : c.code = cc) (hts : ∀ w ∈ Ts, w.before args s = true) (hin : ∀ w ∈ wsX60, w ∈ Ts) (hown : s.vm.findClass own = some m.cls) (hK : va_K D vwCl (tysC cy) s) (hP : HP D cy b0 N S H) {k : Nat} (hkN : k < N) (hk : kd k = 6) {q : Nat} (hq : gR S k 23 = some q) (hlink : (Cond.fieldLink own index (TX6 23).1 (TX6 23).2.1 (TX6 23).2.2.1).before args s = true) (hdg : decode cc pc = .ok (.getfield index, 3)) (kk : W p l e R s m args below meth c H locs cells slots Q (F0 m (pc + 3) ls (.ref (b0 + q) :: rest))) : W p l e R s m args below meth c H locs cells slots Q (F0 m pc ls (.ref (b0 + k) :: rest)) := q_get (ci := 6) (r := (RX6, TX6, 28)) hexec hb hts hin hown hK hP hkN (cell_6 hk) rfl 23 (by decide) hlink (v := .ref (b0 + q)) (by rw [← rf_some hq]; rfl) hdg kk
theorem gn_6_23 (hexec : p.tables.exec = Jvm.exec) (hb : c.code = cc) (hts : ∀ w ∈ Ts, w.before args s = true) (hin : ∀ w ∈ wsX60, w ∈ Ts) (hown : s.vm.findClass own = some m.cls) (hK : va_K D vwCl (tysC cy) s) (hP : HP D cy b0 N S H) {k : Nat} (hkN : k < N) (hk : kd k = 6) (hq : gR S k 23 = none) (hlink : (Cond.fieldLink own index (TX6 23).1 (TX6 23).2.1 (TX6 23).2.2.1).before args s = true) (hdg : decode cc pc = .ok (.getfield index, 3)) (kk : W p l e R s m args below meth c H locs cells slots Q (F0 m (pc + 3) ls (.null :: rest))) : W p l e R s m args below meth c H locs cells slots Q (F0 m pc ls (.ref (b0 + k) :: rest)) := q_get (ci := 6) (r := (RX6, TX6, 28)) hexec hb hts hin hown hK hP hkN (cell_6 hk) rfl 23 (by decide) hlink (v := .null) (by rw [← rf_none (b0 := b0) hq]; rfl) hdg kk
theorem gf_6_24 (hexec : p.tables.exec = Jvm.exec) (hb : c.code = cc) (hts : ∀ w ∈ Ts, w.before args s = true) (hin : ∀ w ∈ wsX60, w ∈ Ts) (hown : s.vm.findClass own = some m.cls) (hK : va_K D vwCl (tysC cy) s) (hP : HP D cy b0 N S H) {k : Nat} (hkN : k < N) (hk : kd k = 6) {q : Nat} (hq : gR S k 24 = some q) (hlink : (Cond.fieldLink own index (TX6 24).1 (TX6 24).2.1 (TX6 24).2.2.1).before args s = true) (hdg : decode cc pc = .ok (.getfield index, 3)) (kk : W p l e R s m args below meth c H locs cells slots Q (F0 m (pc + 3) ls (.ref (b0 + q) :: rest))) : W p l e R s m args below meth c H locs cells slots Q (F0 m pc ls (.ref (b0 + k) :: rest)) := q_get (ci := 6) (r := (RX6, TX6, 28)) hexec hb hts hin hown hK hP hkN (cell_6 hk) rfl 24 (by decide) hlink (v := .ref (b0 + q)) (by rw [← rf_some hq]; rfl) hdg kk
theorem gn_6_24 (hexec : p.tables.exec = Jvm.exec) (hb : c.code = cc) (hts : ∀ w ∈ Ts, w.before args s = true) (hin : ∀ w ∈ wsX60, w ∈ Ts) (hown : s.vm.findClass own = some m.cls) (hK : va_K D vwCl (tysC cy) s) (hP : HP D cy b0 N S H) {k : Nat} (hkN : k < N) (hk : kd k = 6) (hq : gR S k 24 = none) (hlink : (Cond.fieldLink own index (TX6 24).1 (TX6 24).2.1 (TX6 24).2.2.1).before args s = true) (hdg : decode cc pc = .ok (.getfield index, 3)) (kk : W p l e R s m args below meth c H locs cells slots Q (F0 m (pc + 3) ls (.null :: rest))) : W p l e R s m args below meth c H locs cells slots Q (F0 m pc ls (.ref (b0 + k) :: rest)) := q_get (ci := 6) (r := (RX6, TX6, 28)) hexec hb hts hin hown hK hP hkN (cell_6 hk) rfl 24 (by decide) hlink (v := .null) (by rw [← rf_none (b0 := b0) hq]; rfl) hdg kk
theorem gf_6_25 (hexec : p.tables.exec = Jvm.exec) (hb : c.code = cc) (hts : ∀ w ∈ Ts, w.before args s = true) (hin : ∀ w ∈ wsX60, w ∈ Ts) (hown : s.vm.findClass own = some m.cls) (hK : va_K D vwCl (tysC cy) s) (hP : HP D cy b0 N S H) {k : Nat} (hkN : k < N) (hk : kd k = 6) {q : Nat} (hq : gR S k 25 = some q) (hlink : (Cond.fieldLink own index (TX6 25).1 (TX6 25).2.1 (TX6 25).2.2.1).before args s = true) (hdg : decode cc pc = .ok (.getfield index, 3)) (kk : W p l e R s m args below meth c H locs cells slots Q (F0 m (pc + 3) ls (.ref (b0 + q) :: rest))) : W p l e R s m args below meth c H locs cells slots Q (F0 m pc ls (.ref (b0 + k) :: rest)) := q_get (ci := 6) (r := (RX6, TX6, 28)) hexec hb hts hin hown hK hP hkN (cell_6 hk) rfl 25 (by decide) hlink (v := .ref (b0 + q)) (by rw [← rf_some hq]; rfl) hdg kk
theorem gn_6_25 (hexec : p.tables.exec = Jvm.exec) (hb : c.code = cc) (hts : ∀ w ∈ Ts, w.before args s = true) (hin : ∀ w ∈ wsX60, w ∈ Ts) (hown : s.vm.findClass own = some m.cls) (hK : va_K D vwCl (tysC cy) s) (hP : HP D cy b0 N S H) {k : Nat} (hkN : k < N) (hk : kd k = 6) (hq : gR S k 25 = none) (hlink : (Cond.fieldLink own index (TX6 25).1 (TX6 25).2.1 (TX6 25).2.2.1).before args s = true) (hdg : decode cc pc = .ok (.getfield index, 3)) (kk : W p l e R s m args below meth c H locs cells slots Q (F0 m (pc + 3) ls (.null :: rest))) : W p l e R s m args below meth c H locs cells slots Q (F0 m pc ls (.ref (b0 + k) :: rest)) := q_get (ci := 6) (r := (RX6, TX6, 28)) hexec hb hts hin hown hK hP hkN (cell_6 hk) rfl 25 (by decide) hlink (v := .null) (by rw [← rf_none (b0 := b0) hq]; rfl) hdg kk
theorem gf_6_26 (hexec : p.tables.exec = Jvm.exec) (hb : c.code = cc) (hts : ∀ w ∈ Ts, w.before args s = true) (hin : ∀ w ∈ wsX60, w ∈ Ts) (hown : s.vm.findClass own = some m.cls) (hK : va_K D vwCl (tysC cy) s) (hP : HP D cy b0 N S H) {k : Nat} (hkN : k < N) (hk : kd k = 6) {q : Nat} (hq : gR S k 26 = some q) (hlink : (Cond.fieldLink own index (TX6 26).1 (TX6 26).2.1 (TX6 26).2.2.1).before args s = true) (hdg : decode cc pc = .ok (.getfield index, 3)) (kk : W p l e R s m args below meth c H locs cells slots Q (F0 m (pc + 3) ls (.ref (b0 + q) :: rest))) : W p l e R s m args below meth c H locs cells slots Q (F0 m pc ls (.ref (b0 + k) :: rest)) := q_get (ci := 6) (r := (RX6, TX6, 28)) hexec hb hts hin hown hK hP hkN (cell_6 hk) rfl 26 (by decide) hlink (v := .ref (b0 + q)) (by rw [← rf_some hq]; rfl) hdg kk
theorem gn_6_26 (hexec : p.tables.exec = Jvm.exec) (hb : c.code = cc) (hts : ∀ w ∈ Ts, w.before args s = true) (hin : ∀ w ∈ wsX60, w ∈ Ts) (hown : s.vm.findClass own = some m.cls) (hK : va_K D vwCl (tysC cy) s) (hP : HP D cy b0 N S H) {k : Nat} (hkN : k < N) (hk : kd k = 6) (hq : gR S k 26 = none) (hlink : (Cond.fieldLink own index (TX6 26).1 (TX6 26).2.1 (TX6 26).2.2.1).before args s = true) (hdg : decode cc pc = .ok (.getfield index, 3)) (kk : W p l e R s m args below meth c H locs cells slots Q (F0 m (pc + 3) ls (.null :: rest))) : W p l e R s m args below meth c H locs cells slots Q (F0 m pc ls (.ref (b0 + k) :: rest)) := q_get (ci := 6) (r := (RX6, TX6, 28)) hexec hb hts hin hown hK hP hkN (cell_6 hk) rfl 26 (by decide) hlink (v := .null) (by rw [← rf_none (b0 := b0) hq]; rfl) hdg kk
theorem gf_6_27 (hexec : p.tables.exec = Jvm.exec) (hb : c.code = cc) (hts : ∀ w ∈ Ts, w.before args s = true) (hin : ∀ w ∈ wsX60, w ∈ Ts) (hown : s.vm.findClass own = some m.cls) (hK : va_K D vwCl (tysC cy) s) (hP : HP D cy b0 N S H) {k : Nat} (hkN : k < N) (hk : kd k = 6) {q : Nat} (hq : gR S k 27 = some q) (hlink : (Cond.fieldLink own index (TX6 27).1 (TX6 27).2.1 (TX6 27).2.2.1).before args s = true) (hdg : decode cc pc = .ok (.getfield index, 3)) (kk : W p l e R s m args below meth c H locs cells slots Q (F0 m (pc + 3) ls (.ref (b0 + q) :: rest))) : W p l e R s m args below meth c H locs cells slots Q (F0 m pc ls (.ref (b0 + k) :: rest)) := q_get (ci := 6) (r := (RX6, TX6, 28)) hexec hb hts hin hown hK hP hkN (cell_6 hk) rfl 27 (by decide) hlink (v := .ref (b0 + q)) (by rw [← rf_some hq]; rfl) hdg kk
theorem gn_6_27 (hexec : p.tables.exec = Jvm.exec) (hb : c.code = cc) (hts : ∀ w ∈ Ts, w.before args s = true) (hin : ∀ w ∈ wsX60, w ∈ Ts) (hown : s.vm.findClass own = some m.cls) (hK : va_K D vwCl (tysC cy) s) (hP : HP D cy b0 N S H) {k : Nat} (hkN : k < N) (hk : kd k = 6) (hq : gR S k 27 = none) (hlink : (Cond.fieldLink own index (TX6 27).1 (TX6 27).2.1 (TX6 27).2.2.1).before args s = true) (hdg : decode cc pc = .ok (.getfield index, 3)) (kk : W p l e R s m args below meth c H locs cells slots Q (F0 m (pc + 3) ls (.null :: rest))) : W p l e R s m args below meth c H locs cells slots Q (F0 m pc ls (.ref (b0 + k) :: rest)) := q_get (ci := 6) (r := (RX6, TX6, 28)) hexec hb hts hin hown hK hP hkN (cell_6 hk) rfl 27 (by decide) hlink (v := .null) (by rw [← rf_none (b0 := b0) hq]; rfl) hdg kk
end QF
end
section
section QP
variable {p : Program} {l : Launch} {e : Env} {R : Room} {s : State} {m : MethodId} {args : Array Value} {below : List Frame} {meth : Method} {c : Code} {H : Heap} {locs : List Loc} {cells slots : Nat} {Q : State → Prop}
variable {cc : ByteArray} {pc : Nat} {ls : Array Slot} {rest : List Value} {D : va_G} {cy : Nat → ClassId} {b0 N : Nat} {S : St} {A : Nat → Prop} {H0 : Heap} {own : String} {index : Nat} {Ts : List Cond}
theorem pf_0_0 (hexec : p.tables.exec = Jvm.exec) (hb : c.code = cc) (hts : ∀ w ∈ Ts, w.before args s = true) (hin : ∀ w ∈ wsX00, w ∈ Ts) (hown : s.vm.findClass own = some m.cls) (hK : va_K D vwCl (tysC cy) s) (hP : HP D cy b0 N S H) (hS : va_S (AA b0) H0 H locs) {k : Nat} (hkN : k < N) (hk : kd k = 0) (hin2 : meth.name = "<init>") (hdecl : (TX0 0).1 = own) {x : Nat} (hlink : (Cond.fieldLink own index (TX0 0).1 (TX0 0).2.1 (TX0 0).2.2.1).before args s = true) (hdg : decode cc pc = .ok (.putfield index, 3)) (kk : ∀ (H1 : Heap) (locs1 : List Loc), H1.size = H.size → HP D cy b0 N (sR S k 0 (some x)) H1 → va_S (AA b0) H0 H1 locs1 → W p l e R s m args below meth c H1 locs1 cells slots Q (F0 m (pc + 3) ls rest)) : W p l e R s m args below meth c H locs cells slots Q (F0 m pc ls (.ref (b0 + x) :: .ref (b0 + k) :: rest)) :=
  q_putF (C := RX0) (T := TX0) (NF := 3) (ty := tyX0 0) hexec hb hts hin tyX0 tyX0_ok nmX0 hown hK hP hS hkN (cell_0 hk) rfl 0 (by decide) hlink rfl hin2 hdecl (tyX0_ok 0 (by decide)) rfl rfl (by show 0 < 3; decide) (sR S k 0 (some x)) (by rw [cell_0 hk]; simp [gI_sR, gJ_sR, gR_sR]; rfl) cell_sR hdg kk
theorem pf_0_1 (hexec : p.tables.exec = Jvm.exec) (hb : c.code = cc) (hts : ∀ w ∈ Ts, w.before args s = true) (hin : ∀ w ∈ wsX00, w ∈ Ts) (hown : s.vm.findClass own = some m.cls) (hK : va_K D vwCl (tysC cy) s) (hP : HP D cy b0 N S H) (hS : va_S (AA b0) H0 H locs) {k : Nat} (hkN : k < N) (hk : kd k = 0) (hin2 : meth.name = "<init>") (hdecl : (TX0 1).1 = own) {x : Nat} (hlink : (Cond.fieldLink own index (TX0 1).1 (TX0 1).2.1 (TX0 1).2.2.1).before args s = true) (hdg : decode cc pc = .ok (.putfield index, 3)) (kk : ∀ (H1 : Heap) (locs1 : List Loc), H1.size = H.size → HP D cy b0 N (sR S k 1 (some x)) H1 → va_S (AA b0) H0 H1 locs1 → W p l e R s m args below meth c H1 locs1 cells slots Q (F0 m (pc + 3) ls rest)) : W p l e R s m args below meth c H locs cells slots Q (F0 m pc ls (.ref (b0 + x) :: .ref (b0 + k) :: rest)) :=
  q_putF (C := RX0) (T := TX0) (NF := 3) (ty := tyX0 1) hexec hb hts hin tyX0 tyX0_ok nmX0 hown hK hP hS hkN (cell_0 hk) rfl 1 (by decide) hlink rfl hin2 hdecl (tyX0_ok 1 (by decide)) rfl rfl (by show 1 < 3; decide) (sR S k 1 (some x)) (by rw [cell_0 hk]; simp [gI_sR, gJ_sR, gR_sR]; rfl) cell_sR hdg kk
theorem pf_0_2 (hexec : p.tables.exec = Jvm.exec) (hb : c.code = cc) (hts : ∀ w ∈ Ts, w.before args s = true) (hin : ∀ w ∈ wsX00, w ∈ Ts) (hown : s.vm.findClass own = some m.cls) (hK : va_K D vwCl (tysC cy) s) (hP : HP D cy b0 N S H) (hS : va_S (AA b0) H0 H locs) {k : Nat} (hkN : k < N) (hk : kd k = 0) {x : Int32} (hlink : (Cond.fieldLink own index (TX0 2).1 (TX0 2).2.1 (TX0 2).2.2.1).before args s = true) (hdg : decode cc pc = .ok (.putfield index, 3)) (kk : ∀ (H1 : Heap) (locs1 : List Loc), H1.size = H.size → HP D cy b0 N (sI S k 2 x) H1 → va_S (AA b0) H0 H1 locs1 → W p l e R s m args below meth c H1 locs1 cells slots Q (F0 m (pc + 3) ls rest)) : W p l e R s m args below meth c H locs cells slots Q (F0 m pc ls (.int x :: .ref (b0 + k) :: rest)) :=
  q_put (C := RX0) (T := TX0) (NF := 3) (ty := tyX0 2) hexec hb hts hin tyX0 tyX0_ok nmX0 hown hK hP hS hkN (cell_0 hk) rfl 2 (by decide) hlink rfl (tyX0_ok 2 (by decide)) rfl rfl (by show 2 < 3; decide) (sI S k 2 x) (by rw [cell_0 hk]; simp [gI_sI, gJ_sI, gR_sI]) cell_sI hdg kk
theorem pf_1_0 (hexec : p.tables.exec = Jvm.exec) (hb : c.code = cc) (hts : ∀ w ∈ Ts, w.before args s = true) (hin : ∀ w ∈ wsX10, w ∈ Ts) (hown : s.vm.findClass own = some m.cls) (hK : va_K D vwCl (tysC cy) s) (hP : HP D cy b0 N S H) (hS : va_S (AA b0) H0 H locs) {k : Nat} (hkN : k < N) (hk : kd k = 1) (hin2 : meth.name = "<init>") (hdecl : (TX1 0).1 = own) {x : Int32} (hlink : (Cond.fieldLink own index (TX1 0).1 (TX1 0).2.1 (TX1 0).2.2.1).before args s = true) (hdg : decode cc pc = .ok (.putfield index, 3)) (kk : ∀ (H1 : Heap) (locs1 : List Loc), H1.size = H.size → HP D cy b0 N (sI S k 0 x) H1 → va_S (AA b0) H0 H1 locs1 → W p l e R s m args below meth c H1 locs1 cells slots Q (F0 m (pc + 3) ls rest)) : W p l e R s m args below meth c H locs cells slots Q (F0 m pc ls (.int x :: .ref (b0 + k) :: rest)) :=
  q_putF (C := RX1) (T := TX1) (NF := 7) (ty := tyX1 0) hexec hb hts hin tyX1 tyX1_ok nmX1 hown hK hP hS hkN (cell_1 hk) rfl 0 (by decide) hlink rfl hin2 hdecl (tyX1_ok 0 (by decide)) rfl rfl (by show 0 < 7; decide) (sI S k 0 x) (by rw [cell_1 hk]; simp [gI_sI, gJ_sI, gR_sI]) cell_sI hdg kk
theorem pf_1_1 (hexec : p.tables.exec = Jvm.exec) (hb : c.code = cc) (hts : ∀ w ∈ Ts, w.before args s = true) (hin : ∀ w ∈ wsX10, w ∈ Ts) (hown : s.vm.findClass own = some m.cls) (hK : va_K D vwCl (tysC cy) s) (hP : HP D cy b0 N S H) (hS : va_S (AA b0) H0 H locs) {k : Nat} (hkN : k < N) (hk : kd k = 1) (hin2 : meth.name = "<init>") (hdecl : (TX1 1).1 = own) {x : Nat} (hlink : (Cond.fieldLink own index (TX1 1).1 (TX1 1).2.1 (TX1 1).2.2.1).before args s = true) (hdg : decode cc pc = .ok (.putfield index, 3)) (kk : ∀ (H1 : Heap) (locs1 : List Loc), H1.size = H.size → HP D cy b0 N (sR S k 1 (some x)) H1 → va_S (AA b0) H0 H1 locs1 → W p l e R s m args below meth c H1 locs1 cells slots Q (F0 m (pc + 3) ls rest)) : W p l e R s m args below meth c H locs cells slots Q (F0 m pc ls (.ref (b0 + x) :: .ref (b0 + k) :: rest)) :=
  q_putF (C := RX1) (T := TX1) (NF := 7) (ty := tyX1 1) hexec hb hts hin tyX1 tyX1_ok nmX1 hown hK hP hS hkN (cell_1 hk) rfl 1 (by decide) hlink rfl hin2 hdecl (tyX1_ok 1 (by decide)) rfl rfl (by show 1 < 7; decide) (sR S k 1 (some x)) (by rw [cell_1 hk]; simp [gI_sR, gJ_sR, gR_sR]; rfl) cell_sR hdg kk
theorem pf_1_2 (hexec : p.tables.exec = Jvm.exec) (hb : c.code = cc) (hts : ∀ w ∈ Ts, w.before args s = true) (hin : ∀ w ∈ wsX10, w ∈ Ts) (hown : s.vm.findClass own = some m.cls) (hK : va_K D vwCl (tysC cy) s) (hP : HP D cy b0 N S H) (hS : va_S (AA b0) H0 H locs) {k : Nat} (hkN : k < N) (hk : kd k = 1) (hin2 : meth.name = "<init>") (hdecl : (TX1 2).1 = own) {x : Nat} (hlink : (Cond.fieldLink own index (TX1 2).1 (TX1 2).2.1 (TX1 2).2.2.1).before args s = true) (hdg : decode cc pc = .ok (.putfield index, 3)) (kk : ∀ (H1 : Heap) (locs1 : List Loc), H1.size = H.size → HP D cy b0 N (sR S k 2 (some x)) H1 → va_S (AA b0) H0 H1 locs1 → W p l e R s m args below meth c H1 locs1 cells slots Q (F0 m (pc + 3) ls rest)) : W p l e R s m args below meth c H locs cells slots Q (F0 m pc ls (.ref (b0 + x) :: .ref (b0 + k) :: rest)) :=
  q_putF (C := RX1) (T := TX1) (NF := 7) (ty := tyX1 2) hexec hb hts hin tyX1 tyX1_ok nmX1 hown hK hP hS hkN (cell_1 hk) rfl 2 (by decide) hlink rfl hin2 hdecl (tyX1_ok 2 (by decide)) rfl rfl (by show 2 < 7; decide) (sR S k 2 (some x)) (by rw [cell_1 hk]; simp [gI_sR, gJ_sR, gR_sR]; rfl) cell_sR hdg kk
theorem pf_1_3 (hexec : p.tables.exec = Jvm.exec) (hb : c.code = cc) (hts : ∀ w ∈ Ts, w.before args s = true) (hin : ∀ w ∈ wsX10, w ∈ Ts) (hown : s.vm.findClass own = some m.cls) (hK : va_K D vwCl (tysC cy) s) (hP : HP D cy b0 N S H) (hS : va_S (AA b0) H0 H locs) {k : Nat} (hkN : k < N) (hk : kd k = 1) {x : Int32} (hlink : (Cond.fieldLink own index (TX1 3).1 (TX1 3).2.1 (TX1 3).2.2.1).before args s = true) (hdg : decode cc pc = .ok (.putfield index, 3)) (kk : ∀ (H1 : Heap) (locs1 : List Loc), H1.size = H.size → HP D cy b0 N (sI S k 3 x) H1 → va_S (AA b0) H0 H1 locs1 → W p l e R s m args below meth c H1 locs1 cells slots Q (F0 m (pc + 3) ls rest)) : W p l e R s m args below meth c H locs cells slots Q (F0 m pc ls (.int x :: .ref (b0 + k) :: rest)) :=
  q_put (C := RX1) (T := TX1) (NF := 7) (ty := tyX1 3) hexec hb hts hin tyX1 tyX1_ok nmX1 hown hK hP hS hkN (cell_1 hk) rfl 3 (by decide) hlink rfl (tyX1_ok 3 (by decide)) rfl rfl (by show 3 < 7; decide) (sI S k 3 x) (by rw [cell_1 hk]; simp [gI_sI, gJ_sI, gR_sI]) cell_sI hdg kk
theorem pf_1_4 (hexec : p.tables.exec = Jvm.exec) (hb : c.code = cc) (hts : ∀ w ∈ Ts, w.before args s = true) (hin : ∀ w ∈ wsX10, w ∈ Ts) (hown : s.vm.findClass own = some m.cls) (hK : va_K D vwCl (tysC cy) s) (hP : HP D cy b0 N S H) (hS : va_S (AA b0) H0 H locs) {k : Nat} (hkN : k < N) (hk : kd k = 1) {x : Int32} (hlink : (Cond.fieldLink own index (TX1 4).1 (TX1 4).2.1 (TX1 4).2.2.1).before args s = true) (hdg : decode cc pc = .ok (.putfield index, 3)) (kk : ∀ (H1 : Heap) (locs1 : List Loc), H1.size = H.size → HP D cy b0 N (sI S k 4 x) H1 → va_S (AA b0) H0 H1 locs1 → W p l e R s m args below meth c H1 locs1 cells slots Q (F0 m (pc + 3) ls rest)) : W p l e R s m args below meth c H locs cells slots Q (F0 m pc ls (.int x :: .ref (b0 + k) :: rest)) :=
  q_put (C := RX1) (T := TX1) (NF := 7) (ty := tyX1 4) hexec hb hts hin tyX1 tyX1_ok nmX1 hown hK hP hS hkN (cell_1 hk) rfl 4 (by decide) hlink rfl (tyX1_ok 4 (by decide)) rfl rfl (by show 4 < 7; decide) (sI S k 4 x) (by rw [cell_1 hk]; simp [gI_sI, gJ_sI, gR_sI]) cell_sI hdg kk
theorem pf_1_5 (hexec : p.tables.exec = Jvm.exec) (hb : c.code = cc) (hts : ∀ w ∈ Ts, w.before args s = true) (hin : ∀ w ∈ wsX10, w ∈ Ts) (hown : s.vm.findClass own = some m.cls) (hK : va_K D vwCl (tysC cy) s) (hP : HP D cy b0 N S H) (hS : va_S (AA b0) H0 H locs) {k : Nat} (hkN : k < N) (hk : kd k = 1) {x : Bool} (hlink : (Cond.fieldLink own index (TX1 5).1 (TX1 5).2.1 (TX1 5).2.2.1).before args s = true) (hdg : decode cc pc = .ok (.putfield index, 3)) (kk : ∀ (H1 : Heap) (locs1 : List Loc), H1.size = H.size → HP D cy b0 N (sI S k 5 (b2i x)) H1 → va_S (AA b0) H0 H1 locs1 → W p l e R s m args below meth c H1 locs1 cells slots Q (F0 m (pc + 3) ls rest)) : W p l e R s m args below meth c H locs cells slots Q (F0 m pc ls (.int (b2i x) :: .ref (b0 + k) :: rest)) :=
  q_put (C := RX1) (T := TX1) (NF := 7) (ty := tyX1 5) hexec hb hts hin tyX1 tyX1_ok nmX1 hown hK hP hS hkN (cell_1 hk) rfl 5 (by decide) hlink rfl (tyX1_ok 5 (by decide)) (b2i_nar x) (by cases x <;> rfl) (by show 5 < 7; decide) (sI S k 5 (b2i x)) (by rw [cell_1 hk]; simp [gI_sI, gJ_sI, gR_sI]) cell_sI hdg kk
theorem pf_1_6 (hexec : p.tables.exec = Jvm.exec) (hb : c.code = cc) (hts : ∀ w ∈ Ts, w.before args s = true) (hin : ∀ w ∈ wsX10, w ∈ Ts) (hown : s.vm.findClass own = some m.cls) (hK : va_K D vwCl (tysC cy) s) (hP : HP D cy b0 N S H) (hS : va_S (AA b0) H0 H locs) {k : Nat} (hkN : k < N) (hk : kd k = 1) {x : Int32} (hlink : (Cond.fieldLink own index (TX1 6).1 (TX1 6).2.1 (TX1 6).2.2.1).before args s = true) (hdg : decode cc pc = .ok (.putfield index, 3)) (kk : ∀ (H1 : Heap) (locs1 : List Loc), H1.size = H.size → HP D cy b0 N (sI S k 6 x) H1 → va_S (AA b0) H0 H1 locs1 → W p l e R s m args below meth c H1 locs1 cells slots Q (F0 m (pc + 3) ls rest)) : W p l e R s m args below meth c H locs cells slots Q (F0 m pc ls (.int x :: .ref (b0 + k) :: rest)) :=
  q_put (C := RX1) (T := TX1) (NF := 7) (ty := tyX1 6) hexec hb hts hin tyX1 tyX1_ok nmX1 hown hK hP hS hkN (cell_1 hk) rfl 6 (by decide) hlink rfl (tyX1_ok 6 (by decide)) rfl rfl (by show 6 < 7; decide) (sI S k 6 x) (by rw [cell_1 hk]; simp [gI_sI, gJ_sI, gR_sI]) cell_sI hdg kk
theorem pf_2_0 (hexec : p.tables.exec = Jvm.exec) (hb : c.code = cc) (hts : ∀ w ∈ Ts, w.before args s = true) (hin : ∀ w ∈ wsX20, w ∈ Ts) (hown : s.vm.findClass own = some m.cls) (hK : va_K D vwCl (tysC cy) s) (hP : HP D cy b0 N S H) (hS : va_S (AA b0) H0 H locs) {k : Nat} (hkN : k < N) (hk : kd k = 2) {x : Int32} (hlink : (Cond.fieldLink own index (TX2 0).1 (TX2 0).2.1 (TX2 0).2.2.1).before args s = true) (hdg : decode cc pc = .ok (.putfield index, 3)) (kk : ∀ (H1 : Heap) (locs1 : List Loc), H1.size = H.size → HP D cy b0 N (sI S k 0 x) H1 → va_S (AA b0) H0 H1 locs1 → W p l e R s m args below meth c H1 locs1 cells slots Q (F0 m (pc + 3) ls rest)) : W p l e R s m args below meth c H locs cells slots Q (F0 m pc ls (.int x :: .ref (b0 + k) :: rest)) :=
  q_put (C := RX2) (T := TX2) (NF := 8) (ty := tyX2 0) hexec hb hts hin tyX2 tyX2_ok nmX2 hown hK hP hS hkN (cell_2 hk) rfl 0 (by decide) hlink rfl (tyX2_ok 0 (by decide)) rfl rfl (by show 0 < 8; decide) (sI S k 0 x) (by rw [cell_2 hk]; simp [gI_sI, gJ_sI, gR_sI]) cell_sI hdg kk
theorem pf_2_1 (hexec : p.tables.exec = Jvm.exec) (hb : c.code = cc) (hts : ∀ w ∈ Ts, w.before args s = true) (hin : ∀ w ∈ wsX20, w ∈ Ts) (hown : s.vm.findClass own = some m.cls) (hK : va_K D vwCl (tysC cy) s) (hP : HP D cy b0 N S H) (hS : va_S (AA b0) H0 H locs) {k : Nat} (hkN : k < N) (hk : kd k = 2) {x : Int32} (hlink : (Cond.fieldLink own index (TX2 1).1 (TX2 1).2.1 (TX2 1).2.2.1).before args s = true) (hdg : decode cc pc = .ok (.putfield index, 3)) (kk : ∀ (H1 : Heap) (locs1 : List Loc), H1.size = H.size → HP D cy b0 N (sI S k 1 x) H1 → va_S (AA b0) H0 H1 locs1 → W p l e R s m args below meth c H1 locs1 cells slots Q (F0 m (pc + 3) ls rest)) : W p l e R s m args below meth c H locs cells slots Q (F0 m pc ls (.int x :: .ref (b0 + k) :: rest)) :=
  q_put (C := RX2) (T := TX2) (NF := 8) (ty := tyX2 1) hexec hb hts hin tyX2 tyX2_ok nmX2 hown hK hP hS hkN (cell_2 hk) rfl 1 (by decide) hlink rfl (tyX2_ok 1 (by decide)) rfl rfl (by show 1 < 8; decide) (sI S k 1 x) (by rw [cell_2 hk]; simp [gI_sI, gJ_sI, gR_sI]) cell_sI hdg kk
theorem pf_2_2 (hexec : p.tables.exec = Jvm.exec) (hb : c.code = cc) (hts : ∀ w ∈ Ts, w.before args s = true) (hin : ∀ w ∈ wsX20, w ∈ Ts) (hown : s.vm.findClass own = some m.cls) (hK : va_K D vwCl (tysC cy) s) (hP : HP D cy b0 N S H) (hS : va_S (AA b0) H0 H locs) {k : Nat} (hkN : k < N) (hk : kd k = 2) {x : Int32} (hlink : (Cond.fieldLink own index (TX2 2).1 (TX2 2).2.1 (TX2 2).2.2.1).before args s = true) (hdg : decode cc pc = .ok (.putfield index, 3)) (kk : ∀ (H1 : Heap) (locs1 : List Loc), H1.size = H.size → HP D cy b0 N (sI S k 2 x) H1 → va_S (AA b0) H0 H1 locs1 → W p l e R s m args below meth c H1 locs1 cells slots Q (F0 m (pc + 3) ls rest)) : W p l e R s m args below meth c H locs cells slots Q (F0 m pc ls (.int x :: .ref (b0 + k) :: rest)) :=
  q_put (C := RX2) (T := TX2) (NF := 8) (ty := tyX2 2) hexec hb hts hin tyX2 tyX2_ok nmX2 hown hK hP hS hkN (cell_2 hk) rfl 2 (by decide) hlink rfl (tyX2_ok 2 (by decide)) rfl rfl (by show 2 < 8; decide) (sI S k 2 x) (by rw [cell_2 hk]; simp [gI_sI, gJ_sI, gR_sI]) cell_sI hdg kk
theorem pf_2_3 (hexec : p.tables.exec = Jvm.exec) (hb : c.code = cc) (hts : ∀ w ∈ Ts, w.before args s = true) (hin : ∀ w ∈ wsX20, w ∈ Ts) (hown : s.vm.findClass own = some m.cls) (hK : va_K D vwCl (tysC cy) s) (hP : HP D cy b0 N S H) (hS : va_S (AA b0) H0 H locs) {k : Nat} (hkN : k < N) (hk : kd k = 2) {x : Int32} (hlink : (Cond.fieldLink own index (TX2 3).1 (TX2 3).2.1 (TX2 3).2.2.1).before args s = true) (hdg : decode cc pc = .ok (.putfield index, 3)) (kk : ∀ (H1 : Heap) (locs1 : List Loc), H1.size = H.size → HP D cy b0 N (sI S k 3 x) H1 → va_S (AA b0) H0 H1 locs1 → W p l e R s m args below meth c H1 locs1 cells slots Q (F0 m (pc + 3) ls rest)) : W p l e R s m args below meth c H locs cells slots Q (F0 m pc ls (.int x :: .ref (b0 + k) :: rest)) :=
  q_put (C := RX2) (T := TX2) (NF := 8) (ty := tyX2 3) hexec hb hts hin tyX2 tyX2_ok nmX2 hown hK hP hS hkN (cell_2 hk) rfl 3 (by decide) hlink rfl (tyX2_ok 3 (by decide)) rfl rfl (by show 3 < 8; decide) (sI S k 3 x) (by rw [cell_2 hk]; simp [gI_sI, gJ_sI, gR_sI]) cell_sI hdg kk
theorem pf_2_4 (hexec : p.tables.exec = Jvm.exec) (hb : c.code = cc) (hts : ∀ w ∈ Ts, w.before args s = true) (hin : ∀ w ∈ wsX20, w ∈ Ts) (hown : s.vm.findClass own = some m.cls) (hK : va_K D vwCl (tysC cy) s) (hP : HP D cy b0 N S H) (hS : va_S (AA b0) H0 H locs) {k : Nat} (hkN : k < N) (hk : kd k = 2) {x : Int32} (hlink : (Cond.fieldLink own index (TX2 4).1 (TX2 4).2.1 (TX2 4).2.2.1).before args s = true) (hdg : decode cc pc = .ok (.putfield index, 3)) (kk : ∀ (H1 : Heap) (locs1 : List Loc), H1.size = H.size → HP D cy b0 N (sI S k 4 x) H1 → va_S (AA b0) H0 H1 locs1 → W p l e R s m args below meth c H1 locs1 cells slots Q (F0 m (pc + 3) ls rest)) : W p l e R s m args below meth c H locs cells slots Q (F0 m pc ls (.int x :: .ref (b0 + k) :: rest)) :=
  q_put (C := RX2) (T := TX2) (NF := 8) (ty := tyX2 4) hexec hb hts hin tyX2 tyX2_ok nmX2 hown hK hP hS hkN (cell_2 hk) rfl 4 (by decide) hlink rfl (tyX2_ok 4 (by decide)) rfl rfl (by show 4 < 8; decide) (sI S k 4 x) (by rw [cell_2 hk]; simp [gI_sI, gJ_sI, gR_sI]) cell_sI hdg kk
theorem pf_2_5 (hexec : p.tables.exec = Jvm.exec) (hb : c.code = cc) (hts : ∀ w ∈ Ts, w.before args s = true) (hin : ∀ w ∈ wsX20, w ∈ Ts) (hown : s.vm.findClass own = some m.cls) (hK : va_K D vwCl (tysC cy) s) (hP : HP D cy b0 N S H) (hS : va_S (AA b0) H0 H locs) {k : Nat} (hkN : k < N) (hk : kd k = 2) (hin2 : meth.name = "<init>") (hdecl : (TX2 5).1 = own) {x : Nat} (hlink : (Cond.fieldLink own index (TX2 5).1 (TX2 5).2.1 (TX2 5).2.2.1).before args s = true) (hdg : decode cc pc = .ok (.putfield index, 3)) (kk : ∀ (H1 : Heap) (locs1 : List Loc), H1.size = H.size → HP D cy b0 N (sR S k 5 (some x)) H1 → va_S (AA b0) H0 H1 locs1 → W p l e R s m args below meth c H1 locs1 cells slots Q (F0 m (pc + 3) ls rest)) : W p l e R s m args below meth c H locs cells slots Q (F0 m pc ls (.ref (b0 + x) :: .ref (b0 + k) :: rest)) :=
  q_putF (C := RX2) (T := TX2) (NF := 8) (ty := tyX2 5) hexec hb hts hin tyX2 tyX2_ok nmX2 hown hK hP hS hkN (cell_2 hk) rfl 5 (by decide) hlink rfl hin2 hdecl (tyX2_ok 5 (by decide)) rfl rfl (by show 5 < 8; decide) (sR S k 5 (some x)) (by rw [cell_2 hk]; simp [gI_sR, gJ_sR, gR_sR]; rfl) cell_sR hdg kk
theorem pf_2_6 (hexec : p.tables.exec = Jvm.exec) (hb : c.code = cc) (hts : ∀ w ∈ Ts, w.before args s = true) (hin : ∀ w ∈ wsX20, w ∈ Ts) (hown : s.vm.findClass own = some m.cls) (hK : va_K D vwCl (tysC cy) s) (hP : HP D cy b0 N S H) (hS : va_S (AA b0) H0 H locs) {k : Nat} (hkN : k < N) (hk : kd k = 2) (hin2 : meth.name = "<init>") (hdecl : (TX2 6).1 = own) {x : Nat} (hlink : (Cond.fieldLink own index (TX2 6).1 (TX2 6).2.1 (TX2 6).2.2.1).before args s = true) (hdg : decode cc pc = .ok (.putfield index, 3)) (kk : ∀ (H1 : Heap) (locs1 : List Loc), H1.size = H.size → HP D cy b0 N (sR S k 6 (some x)) H1 → va_S (AA b0) H0 H1 locs1 → W p l e R s m args below meth c H1 locs1 cells slots Q (F0 m (pc + 3) ls rest)) : W p l e R s m args below meth c H locs cells slots Q (F0 m pc ls (.ref (b0 + x) :: .ref (b0 + k) :: rest)) :=
  q_putF (C := RX2) (T := TX2) (NF := 8) (ty := tyX2 6) hexec hb hts hin tyX2 tyX2_ok nmX2 hown hK hP hS hkN (cell_2 hk) rfl 6 (by decide) hlink rfl hin2 hdecl (tyX2_ok 6 (by decide)) rfl rfl (by show 6 < 8; decide) (sR S k 6 (some x)) (by rw [cell_2 hk]; simp [gI_sR, gJ_sR, gR_sR]; rfl) cell_sR hdg kk
theorem pf_2_7 (hexec : p.tables.exec = Jvm.exec) (hb : c.code = cc) (hts : ∀ w ∈ Ts, w.before args s = true) (hin : ∀ w ∈ wsX20, w ∈ Ts) (hown : s.vm.findClass own = some m.cls) (hK : va_K D vwCl (tysC cy) s) (hP : HP D cy b0 N S H) (hS : va_S (AA b0) H0 H locs) {k : Nat} (hkN : k < N) (hk : kd k = 2) (hin2 : meth.name = "<init>") (hdecl : (TX2 7).1 = own) {x : Nat} (hlink : (Cond.fieldLink own index (TX2 7).1 (TX2 7).2.1 (TX2 7).2.2.1).before args s = true) (hdg : decode cc pc = .ok (.putfield index, 3)) (kk : ∀ (H1 : Heap) (locs1 : List Loc), H1.size = H.size → HP D cy b0 N (sR S k 7 (some x)) H1 → va_S (AA b0) H0 H1 locs1 → W p l e R s m args below meth c H1 locs1 cells slots Q (F0 m (pc + 3) ls rest)) : W p l e R s m args below meth c H locs cells slots Q (F0 m pc ls (.ref (b0 + x) :: .ref (b0 + k) :: rest)) :=
  q_putF (C := RX2) (T := TX2) (NF := 8) (ty := tyX2 7) hexec hb hts hin tyX2 tyX2_ok nmX2 hown hK hP hS hkN (cell_2 hk) rfl 7 (by decide) hlink rfl hin2 hdecl (tyX2_ok 7 (by decide)) rfl rfl (by show 7 < 8; decide) (sR S k 7 (some x)) (by rw [cell_2 hk]; simp [gI_sR, gJ_sR, gR_sR]; rfl) cell_sR hdg kk
theorem pf_3_0 (hexec : p.tables.exec = Jvm.exec) (hb : c.code = cc) (hts : ∀ w ∈ Ts, w.before args s = true) (hin : ∀ w ∈ wsX30, w ∈ Ts) (hown : s.vm.findClass own = some m.cls) (hK : va_K D vwCl (tysC cy) s) (hP : HP D cy b0 N S H) (hS : va_S (AA b0) H0 H locs) {k : Nat} (hkN : k < N) (hk : kd k = 3) {x : Int32} (hlink : (Cond.fieldLink own index (TX3 0).1 (TX3 0).2.1 (TX3 0).2.2.1).before args s = true) (hdg : decode cc pc = .ok (.putfield index, 3)) (kk : ∀ (H1 : Heap) (locs1 : List Loc), H1.size = H.size → HP D cy b0 N (sI S k 0 x) H1 → va_S (AA b0) H0 H1 locs1 → W p l e R s m args below meth c H1 locs1 cells slots Q (F0 m (pc + 3) ls rest)) : W p l e R s m args below meth c H locs cells slots Q (F0 m pc ls (.int x :: .ref (b0 + k) :: rest)) :=
  q_put (C := RX3) (T := TX3) (NF := 5) (ty := tyX3 0) hexec hb hts hin tyX3 tyX3_ok nmX3 hown hK hP hS hkN (cell_3 hk) rfl 0 (by decide) hlink rfl (tyX3_ok 0 (by decide)) rfl rfl (by show 0 < 5; decide) (sI S k 0 x) (by rw [cell_3 hk]; simp [gI_sI, gJ_sI, gR_sI]) cell_sI hdg kk
theorem pf_3_1 (hexec : p.tables.exec = Jvm.exec) (hb : c.code = cc) (hts : ∀ w ∈ Ts, w.before args s = true) (hin : ∀ w ∈ wsX30, w ∈ Ts) (hown : s.vm.findClass own = some m.cls) (hK : va_K D vwCl (tysC cy) s) (hP : HP D cy b0 N S H) (hS : va_S (AA b0) H0 H locs) {k : Nat} (hkN : k < N) (hk : kd k = 3) {x : Int32} (hlink : (Cond.fieldLink own index (TX3 1).1 (TX3 1).2.1 (TX3 1).2.2.1).before args s = true) (hdg : decode cc pc = .ok (.putfield index, 3)) (kk : ∀ (H1 : Heap) (locs1 : List Loc), H1.size = H.size → HP D cy b0 N (sI S k 1 x) H1 → va_S (AA b0) H0 H1 locs1 → W p l e R s m args below meth c H1 locs1 cells slots Q (F0 m (pc + 3) ls rest)) : W p l e R s m args below meth c H locs cells slots Q (F0 m pc ls (.int x :: .ref (b0 + k) :: rest)) :=
  q_put (C := RX3) (T := TX3) (NF := 5) (ty := tyX3 1) hexec hb hts hin tyX3 tyX3_ok nmX3 hown hK hP hS hkN (cell_3 hk) rfl 1 (by decide) hlink rfl (tyX3_ok 1 (by decide)) rfl rfl (by show 1 < 5; decide) (sI S k 1 x) (by rw [cell_3 hk]; simp [gI_sI, gJ_sI, gR_sI]) cell_sI hdg kk
theorem pf_3_2 (hexec : p.tables.exec = Jvm.exec) (hb : c.code = cc) (hts : ∀ w ∈ Ts, w.before args s = true) (hin : ∀ w ∈ wsX30, w ∈ Ts) (hown : s.vm.findClass own = some m.cls) (hK : va_K D vwCl (tysC cy) s) (hP : HP D cy b0 N S H) (hS : va_S (AA b0) H0 H locs) {k : Nat} (hkN : k < N) (hk : kd k = 3) {x : Int32} (hlink : (Cond.fieldLink own index (TX3 2).1 (TX3 2).2.1 (TX3 2).2.2.1).before args s = true) (hdg : decode cc pc = .ok (.putfield index, 3)) (kk : ∀ (H1 : Heap) (locs1 : List Loc), H1.size = H.size → HP D cy b0 N (sI S k 2 x) H1 → va_S (AA b0) H0 H1 locs1 → W p l e R s m args below meth c H1 locs1 cells slots Q (F0 m (pc + 3) ls rest)) : W p l e R s m args below meth c H locs cells slots Q (F0 m pc ls (.int x :: .ref (b0 + k) :: rest)) :=
  q_put (C := RX3) (T := TX3) (NF := 5) (ty := tyX3 2) hexec hb hts hin tyX3 tyX3_ok nmX3 hown hK hP hS hkN (cell_3 hk) rfl 2 (by decide) hlink rfl (tyX3_ok 2 (by decide)) rfl rfl (by show 2 < 5; decide) (sI S k 2 x) (by rw [cell_3 hk]; simp [gI_sI, gJ_sI, gR_sI]) cell_sI hdg kk
theorem pf_3_3 (hexec : p.tables.exec = Jvm.exec) (hb : c.code = cc) (hts : ∀ w ∈ Ts, w.before args s = true) (hin : ∀ w ∈ wsX30, w ∈ Ts) (hown : s.vm.findClass own = some m.cls) (hK : va_K D vwCl (tysC cy) s) (hP : HP D cy b0 N S H) (hS : va_S (AA b0) H0 H locs) {k : Nat} (hkN : k < N) (hk : kd k = 3) {x : Int32} (hlink : (Cond.fieldLink own index (TX3 3).1 (TX3 3).2.1 (TX3 3).2.2.1).before args s = true) (hdg : decode cc pc = .ok (.putfield index, 3)) (kk : ∀ (H1 : Heap) (locs1 : List Loc), H1.size = H.size → HP D cy b0 N (sI S k 3 x) H1 → va_S (AA b0) H0 H1 locs1 → W p l e R s m args below meth c H1 locs1 cells slots Q (F0 m (pc + 3) ls rest)) : W p l e R s m args below meth c H locs cells slots Q (F0 m pc ls (.int x :: .ref (b0 + k) :: rest)) :=
  q_put (C := RX3) (T := TX3) (NF := 5) (ty := tyX3 3) hexec hb hts hin tyX3 tyX3_ok nmX3 hown hK hP hS hkN (cell_3 hk) rfl 3 (by decide) hlink rfl (tyX3_ok 3 (by decide)) rfl rfl (by show 3 < 5; decide) (sI S k 3 x) (by rw [cell_3 hk]; simp [gI_sI, gJ_sI, gR_sI]) cell_sI hdg kk
theorem pf_3_4 (hexec : p.tables.exec = Jvm.exec) (hb : c.code = cc) (hts : ∀ w ∈ Ts, w.before args s = true) (hin : ∀ w ∈ wsX30, w ∈ Ts) (hown : s.vm.findClass own = some m.cls) (hK : va_K D vwCl (tysC cy) s) (hP : HP D cy b0 N S H) (hS : va_S (AA b0) H0 H locs) {k : Nat} (hkN : k < N) (hk : kd k = 3) {x : Int64} (hlink : (Cond.fieldLink own index (TX3 4).1 (TX3 4).2.1 (TX3 4).2.2.1).before args s = true) (hdg : decode cc pc = .ok (.putfield index, 3)) (kk : ∀ (H1 : Heap) (locs1 : List Loc), H1.size = H.size → HP D cy b0 N (sJ S k 4 x) H1 → va_S (AA b0) H0 H1 locs1 → W p l e R s m args below meth c H1 locs1 cells slots Q (F0 m (pc + 3) ls rest)) : W p l e R s m args below meth c H locs cells slots Q (F0 m pc ls (.long x :: .ref (b0 + k) :: rest)) :=
  q_put (C := RX3) (T := TX3) (NF := 5) (ty := tyX3 4) hexec hb hts hin tyX3 tyX3_ok nmX3 hown hK hP hS hkN (cell_3 hk) rfl 4 (by decide) hlink rfl (tyX3_ok 4 (by decide)) rfl rfl (by show 4 < 5; decide) (sJ S k 4 x) (by rw [cell_3 hk]; simp [gI_sJ, gJ_sJ, gR_sJ]) cell_sJ hdg kk
theorem pf_4_0 (hexec : p.tables.exec = Jvm.exec) (hb : c.code = cc) (hts : ∀ w ∈ Ts, w.before args s = true) (hin : ∀ w ∈ wsX40, w ∈ Ts) (hown : s.vm.findClass own = some m.cls) (hK : va_K D vwCl (tysC cy) s) (hP : HP D cy b0 N S H) (hS : va_S (AA b0) H0 H locs) {k : Nat} (hkN : k < N) (hk : kd k = 4) {x : Nat} (hlink : (Cond.fieldLink own index (TX4 0).1 (TX4 0).2.1 (TX4 0).2.2.1).before args s = true) (hdg : decode cc pc = .ok (.putfield index, 3)) (kk : ∀ (H1 : Heap) (locs1 : List Loc), H1.size = H.size → HP D cy b0 N (sR S k 0 (some x)) H1 → va_S (AA b0) H0 H1 locs1 → W p l e R s m args below meth c H1 locs1 cells slots Q (F0 m (pc + 3) ls rest)) : W p l e R s m args below meth c H locs cells slots Q (F0 m pc ls (.ref (b0 + x) :: .ref (b0 + k) :: rest)) :=
  q_put (C := RX4) (T := TX4) (NF := 13) (ty := tyX4 0) hexec hb hts hin tyX4 tyX4_ok nmX4 hown hK hP hS hkN (cell_4 hk) rfl 0 (by decide) hlink rfl (tyX4_ok 0 (by decide)) rfl rfl (by show 0 < 13; decide) (sR S k 0 (some x)) (by rw [cell_4 hk]; simp [gI_sR, gJ_sR, gR_sR]; rfl) cell_sR hdg kk
theorem pn_4_0 (hexec : p.tables.exec = Jvm.exec) (hb : c.code = cc) (hts : ∀ w ∈ Ts, w.before args s = true) (hin : ∀ w ∈ wsX40, w ∈ Ts) (hown : s.vm.findClass own = some m.cls) (hK : va_K D vwCl (tysC cy) s) (hP : HP D cy b0 N S H) (hS : va_S (AA b0) H0 H locs) {k : Nat} (hkN : k < N) (hk : kd k = 4)  (hlink : (Cond.fieldLink own index (TX4 0).1 (TX4 0).2.1 (TX4 0).2.2.1).before args s = true) (hdg : decode cc pc = .ok (.putfield index, 3)) (kk : ∀ (H1 : Heap) (locs1 : List Loc), H1.size = H.size → HP D cy b0 N (sR S k 0 none) H1 → va_S (AA b0) H0 H1 locs1 → W p l e R s m args below meth c H1 locs1 cells slots Q (F0 m (pc + 3) ls rest)) : W p l e R s m args below meth c H locs cells slots Q (F0 m pc ls (.null :: .ref (b0 + k) :: rest)) :=
  q_put (C := RX4) (T := TX4) (NF := 13) (ty := tyX4 0) hexec hb hts hin tyX4 tyX4_ok nmX4 hown hK hP hS hkN (cell_4 hk) rfl 0 (by decide) hlink rfl (tyX4_ok 0 (by decide)) rfl rfl (by show 0 < 13; decide) (sR S k 0 none) (by rw [cell_4 hk]; simp [gI_sR, gJ_sR, gR_sR]; rfl) cell_sR hdg kk
theorem pf_4_1 (hexec : p.tables.exec = Jvm.exec) (hb : c.code = cc) (hts : ∀ w ∈ Ts, w.before args s = true) (hin : ∀ w ∈ wsX40, w ∈ Ts) (hown : s.vm.findClass own = some m.cls) (hK : va_K D vwCl (tysC cy) s) (hP : HP D cy b0 N S H) (hS : va_S (AA b0) H0 H locs) {k : Nat} (hkN : k < N) (hk : kd k = 4) {x : Nat} (hlink : (Cond.fieldLink own index (TX4 1).1 (TX4 1).2.1 (TX4 1).2.2.1).before args s = true) (hdg : decode cc pc = .ok (.putfield index, 3)) (kk : ∀ (H1 : Heap) (locs1 : List Loc), H1.size = H.size → HP D cy b0 N (sR S k 1 (some x)) H1 → va_S (AA b0) H0 H1 locs1 → W p l e R s m args below meth c H1 locs1 cells slots Q (F0 m (pc + 3) ls rest)) : W p l e R s m args below meth c H locs cells slots Q (F0 m pc ls (.ref (b0 + x) :: .ref (b0 + k) :: rest)) :=
  q_put (C := RX4) (T := TX4) (NF := 13) (ty := tyX4 1) hexec hb hts hin tyX4 tyX4_ok nmX4 hown hK hP hS hkN (cell_4 hk) rfl 1 (by decide) hlink rfl (tyX4_ok 1 (by decide)) rfl rfl (by show 1 < 13; decide) (sR S k 1 (some x)) (by rw [cell_4 hk]; simp [gI_sR, gJ_sR, gR_sR]; rfl) cell_sR hdg kk
theorem pn_4_1 (hexec : p.tables.exec = Jvm.exec) (hb : c.code = cc) (hts : ∀ w ∈ Ts, w.before args s = true) (hin : ∀ w ∈ wsX40, w ∈ Ts) (hown : s.vm.findClass own = some m.cls) (hK : va_K D vwCl (tysC cy) s) (hP : HP D cy b0 N S H) (hS : va_S (AA b0) H0 H locs) {k : Nat} (hkN : k < N) (hk : kd k = 4)  (hlink : (Cond.fieldLink own index (TX4 1).1 (TX4 1).2.1 (TX4 1).2.2.1).before args s = true) (hdg : decode cc pc = .ok (.putfield index, 3)) (kk : ∀ (H1 : Heap) (locs1 : List Loc), H1.size = H.size → HP D cy b0 N (sR S k 1 none) H1 → va_S (AA b0) H0 H1 locs1 → W p l e R s m args below meth c H1 locs1 cells slots Q (F0 m (pc + 3) ls rest)) : W p l e R s m args below meth c H locs cells slots Q (F0 m pc ls (.null :: .ref (b0 + k) :: rest)) :=
  q_put (C := RX4) (T := TX4) (NF := 13) (ty := tyX4 1) hexec hb hts hin tyX4 tyX4_ok nmX4 hown hK hP hS hkN (cell_4 hk) rfl 1 (by decide) hlink rfl (tyX4_ok 1 (by decide)) rfl rfl (by show 1 < 13; decide) (sR S k 1 none) (by rw [cell_4 hk]; simp [gI_sR, gJ_sR, gR_sR]; rfl) cell_sR hdg kk
theorem pf_4_2 (hexec : p.tables.exec = Jvm.exec) (hb : c.code = cc) (hts : ∀ w ∈ Ts, w.before args s = true) (hin : ∀ w ∈ wsX40, w ∈ Ts) (hown : s.vm.findClass own = some m.cls) (hK : va_K D vwCl (tysC cy) s) (hP : HP D cy b0 N S H) (hS : va_S (AA b0) H0 H locs) {k : Nat} (hkN : k < N) (hk : kd k = 4) (hin2 : meth.name = "<init>") (hdecl : (TX4 2).1 = own) {x : Nat} (hlink : (Cond.fieldLink own index (TX4 2).1 (TX4 2).2.1 (TX4 2).2.2.1).before args s = true) (hdg : decode cc pc = .ok (.putfield index, 3)) (kk : ∀ (H1 : Heap) (locs1 : List Loc), H1.size = H.size → HP D cy b0 N (sR S k 2 (some x)) H1 → va_S (AA b0) H0 H1 locs1 → W p l e R s m args below meth c H1 locs1 cells slots Q (F0 m (pc + 3) ls rest)) : W p l e R s m args below meth c H locs cells slots Q (F0 m pc ls (.ref (b0 + x) :: .ref (b0 + k) :: rest)) :=
  q_putF (C := RX4) (T := TX4) (NF := 13) (ty := tyX4 2) hexec hb hts hin tyX4 tyX4_ok nmX4 hown hK hP hS hkN (cell_4 hk) rfl 2 (by decide) hlink rfl hin2 hdecl (tyX4_ok 2 (by decide)) rfl rfl (by show 2 < 13; decide) (sR S k 2 (some x)) (by rw [cell_4 hk]; simp [gI_sR, gJ_sR, gR_sR]; rfl) cell_sR hdg kk
theorem pf_4_3 (hexec : p.tables.exec = Jvm.exec) (hb : c.code = cc) (hts : ∀ w ∈ Ts, w.before args s = true) (hin : ∀ w ∈ wsX40, w ∈ Ts) (hown : s.vm.findClass own = some m.cls) (hK : va_K D vwCl (tysC cy) s) (hP : HP D cy b0 N S H) (hS : va_S (AA b0) H0 H locs) {k : Nat} (hkN : k < N) (hk : kd k = 4) (hin2 : meth.name = "<init>") (hdecl : (TX4 3).1 = own) {x : Nat} (hlink : (Cond.fieldLink own index (TX4 3).1 (TX4 3).2.1 (TX4 3).2.2.1).before args s = true) (hdg : decode cc pc = .ok (.putfield index, 3)) (kk : ∀ (H1 : Heap) (locs1 : List Loc), H1.size = H.size → HP D cy b0 N (sR S k 3 (some x)) H1 → va_S (AA b0) H0 H1 locs1 → W p l e R s m args below meth c H1 locs1 cells slots Q (F0 m (pc + 3) ls rest)) : W p l e R s m args below meth c H locs cells slots Q (F0 m pc ls (.ref (b0 + x) :: .ref (b0 + k) :: rest)) :=
  q_putF (C := RX4) (T := TX4) (NF := 13) (ty := tyX4 3) hexec hb hts hin tyX4 tyX4_ok nmX4 hown hK hP hS hkN (cell_4 hk) rfl 3 (by decide) hlink rfl hin2 hdecl (tyX4_ok 3 (by decide)) rfl rfl (by show 3 < 13; decide) (sR S k 3 (some x)) (by rw [cell_4 hk]; simp [gI_sR, gJ_sR, gR_sR]; rfl) cell_sR hdg kk
theorem pf_4_4 (hexec : p.tables.exec = Jvm.exec) (hb : c.code = cc) (hts : ∀ w ∈ Ts, w.before args s = true) (hin : ∀ w ∈ wsX40, w ∈ Ts) (hown : s.vm.findClass own = some m.cls) (hK : va_K D vwCl (tysC cy) s) (hP : HP D cy b0 N S H) (hS : va_S (AA b0) H0 H locs) {k : Nat} (hkN : k < N) (hk : kd k = 4) {x : Int32} (hlink : (Cond.fieldLink own index (TX4 4).1 (TX4 4).2.1 (TX4 4).2.2.1).before args s = true) (hdg : decode cc pc = .ok (.putfield index, 3)) (kk : ∀ (H1 : Heap) (locs1 : List Loc), H1.size = H.size → HP D cy b0 N (sI S k 4 x) H1 → va_S (AA b0) H0 H1 locs1 → W p l e R s m args below meth c H1 locs1 cells slots Q (F0 m (pc + 3) ls rest)) : W p l e R s m args below meth c H locs cells slots Q (F0 m pc ls (.int x :: .ref (b0 + k) :: rest)) :=
  q_put (C := RX4) (T := TX4) (NF := 13) (ty := tyX4 4) hexec hb hts hin tyX4 tyX4_ok nmX4 hown hK hP hS hkN (cell_4 hk) rfl 4 (by decide) hlink rfl (tyX4_ok 4 (by decide)) rfl rfl (by show 4 < 13; decide) (sI S k 4 x) (by rw [cell_4 hk]; simp [gI_sI, gJ_sI, gR_sI]) cell_sI hdg kk
theorem pf_4_5 (hexec : p.tables.exec = Jvm.exec) (hb : c.code = cc) (hts : ∀ w ∈ Ts, w.before args s = true) (hin : ∀ w ∈ wsX40, w ∈ Ts) (hown : s.vm.findClass own = some m.cls) (hK : va_K D vwCl (tysC cy) s) (hP : HP D cy b0 N S H) (hS : va_S (AA b0) H0 H locs) {k : Nat} (hkN : k < N) (hk : kd k = 4) {x : Int32} (hlink : (Cond.fieldLink own index (TX4 5).1 (TX4 5).2.1 (TX4 5).2.2.1).before args s = true) (hdg : decode cc pc = .ok (.putfield index, 3)) (kk : ∀ (H1 : Heap) (locs1 : List Loc), H1.size = H.size → HP D cy b0 N (sI S k 5 x) H1 → va_S (AA b0) H0 H1 locs1 → W p l e R s m args below meth c H1 locs1 cells slots Q (F0 m (pc + 3) ls rest)) : W p l e R s m args below meth c H locs cells slots Q (F0 m pc ls (.int x :: .ref (b0 + k) :: rest)) :=
  q_put (C := RX4) (T := TX4) (NF := 13) (ty := tyX4 5) hexec hb hts hin tyX4 tyX4_ok nmX4 hown hK hP hS hkN (cell_4 hk) rfl 5 (by decide) hlink rfl (tyX4_ok 5 (by decide)) rfl rfl (by show 5 < 13; decide) (sI S k 5 x) (by rw [cell_4 hk]; simp [gI_sI, gJ_sI, gR_sI]) cell_sI hdg kk
theorem pf_4_6 (hexec : p.tables.exec = Jvm.exec) (hb : c.code = cc) (hts : ∀ w ∈ Ts, w.before args s = true) (hin : ∀ w ∈ wsX40, w ∈ Ts) (hown : s.vm.findClass own = some m.cls) (hK : va_K D vwCl (tysC cy) s) (hP : HP D cy b0 N S H) (hS : va_S (AA b0) H0 H locs) {k : Nat} (hkN : k < N) (hk : kd k = 4) {x : Int32} (hlink : (Cond.fieldLink own index (TX4 6).1 (TX4 6).2.1 (TX4 6).2.2.1).before args s = true) (hdg : decode cc pc = .ok (.putfield index, 3)) (kk : ∀ (H1 : Heap) (locs1 : List Loc), H1.size = H.size → HP D cy b0 N (sI S k 6 x) H1 → va_S (AA b0) H0 H1 locs1 → W p l e R s m args below meth c H1 locs1 cells slots Q (F0 m (pc + 3) ls rest)) : W p l e R s m args below meth c H locs cells slots Q (F0 m pc ls (.int x :: .ref (b0 + k) :: rest)) :=
  q_put (C := RX4) (T := TX4) (NF := 13) (ty := tyX4 6) hexec hb hts hin tyX4 tyX4_ok nmX4 hown hK hP hS hkN (cell_4 hk) rfl 6 (by decide) hlink rfl (tyX4_ok 6 (by decide)) rfl rfl (by show 6 < 13; decide) (sI S k 6 x) (by rw [cell_4 hk]; simp [gI_sI, gJ_sI, gR_sI]) cell_sI hdg kk
theorem pf_4_7 (hexec : p.tables.exec = Jvm.exec) (hb : c.code = cc) (hts : ∀ w ∈ Ts, w.before args s = true) (hin : ∀ w ∈ wsX40, w ∈ Ts) (hown : s.vm.findClass own = some m.cls) (hK : va_K D vwCl (tysC cy) s) (hP : HP D cy b0 N S H) (hS : va_S (AA b0) H0 H locs) {k : Nat} (hkN : k < N) (hk : kd k = 4) (hin2 : meth.name = "<init>") (hdecl : (TX4 7).1 = own) {x : Nat} (hlink : (Cond.fieldLink own index (TX4 7).1 (TX4 7).2.1 (TX4 7).2.2.1).before args s = true) (hdg : decode cc pc = .ok (.putfield index, 3)) (kk : ∀ (H1 : Heap) (locs1 : List Loc), H1.size = H.size → HP D cy b0 N (sR S k 7 (some x)) H1 → va_S (AA b0) H0 H1 locs1 → W p l e R s m args below meth c H1 locs1 cells slots Q (F0 m (pc + 3) ls rest)) : W p l e R s m args below meth c H locs cells slots Q (F0 m pc ls (.ref (b0 + x) :: .ref (b0 + k) :: rest)) :=
  q_putF (C := RX4) (T := TX4) (NF := 13) (ty := tyX4 7) hexec hb hts hin tyX4 tyX4_ok nmX4 hown hK hP hS hkN (cell_4 hk) rfl 7 (by decide) hlink rfl hin2 hdecl (tyX4_ok 7 (by decide)) rfl rfl (by show 7 < 13; decide) (sR S k 7 (some x)) (by rw [cell_4 hk]; simp [gI_sR, gJ_sR, gR_sR]; rfl) cell_sR hdg kk
theorem pf_4_8 (hexec : p.tables.exec = Jvm.exec) (hb : c.code = cc) (hts : ∀ w ∈ Ts, w.before args s = true) (hin : ∀ w ∈ wsX40, w ∈ Ts) (hown : s.vm.findClass own = some m.cls) (hK : va_K D vwCl (tysC cy) s) (hP : HP D cy b0 N S H) (hS : va_S (AA b0) H0 H locs) {k : Nat} (hkN : k < N) (hk : kd k = 4) (hin2 : meth.name = "<init>") (hdecl : (TX4 8).1 = own) {x : Nat} (hlink : (Cond.fieldLink own index (TX4 8).1 (TX4 8).2.1 (TX4 8).2.2.1).before args s = true) (hdg : decode cc pc = .ok (.putfield index, 3)) (kk : ∀ (H1 : Heap) (locs1 : List Loc), H1.size = H.size → HP D cy b0 N (sR S k 8 (some x)) H1 → va_S (AA b0) H0 H1 locs1 → W p l e R s m args below meth c H1 locs1 cells slots Q (F0 m (pc + 3) ls rest)) : W p l e R s m args below meth c H locs cells slots Q (F0 m pc ls (.ref (b0 + x) :: .ref (b0 + k) :: rest)) :=
  q_putF (C := RX4) (T := TX4) (NF := 13) (ty := tyX4 8) hexec hb hts hin tyX4 tyX4_ok nmX4 hown hK hP hS hkN (cell_4 hk) rfl 8 (by decide) hlink rfl hin2 hdecl (tyX4_ok 8 (by decide)) rfl rfl (by show 8 < 13; decide) (sR S k 8 (some x)) (by rw [cell_4 hk]; simp [gI_sR, gJ_sR, gR_sR]; rfl) cell_sR hdg kk
theorem pf_4_9 (hexec : p.tables.exec = Jvm.exec) (hb : c.code = cc) (hts : ∀ w ∈ Ts, w.before args s = true) (hin : ∀ w ∈ wsX40, w ∈ Ts) (hown : s.vm.findClass own = some m.cls) (hK : va_K D vwCl (tysC cy) s) (hP : HP D cy b0 N S H) (hS : va_S (AA b0) H0 H locs) {k : Nat} (hkN : k < N) (hk : kd k = 4) (hin2 : meth.name = "<init>") (hdecl : (TX4 9).1 = own) {x : Nat} (hlink : (Cond.fieldLink own index (TX4 9).1 (TX4 9).2.1 (TX4 9).2.2.1).before args s = true) (hdg : decode cc pc = .ok (.putfield index, 3)) (kk : ∀ (H1 : Heap) (locs1 : List Loc), H1.size = H.size → HP D cy b0 N (sR S k 9 (some x)) H1 → va_S (AA b0) H0 H1 locs1 → W p l e R s m args below meth c H1 locs1 cells slots Q (F0 m (pc + 3) ls rest)) : W p l e R s m args below meth c H locs cells slots Q (F0 m pc ls (.ref (b0 + x) :: .ref (b0 + k) :: rest)) :=
  q_putF (C := RX4) (T := TX4) (NF := 13) (ty := tyX4 9) hexec hb hts hin tyX4 tyX4_ok nmX4 hown hK hP hS hkN (cell_4 hk) rfl 9 (by decide) hlink rfl hin2 hdecl (tyX4_ok 9 (by decide)) rfl rfl (by show 9 < 13; decide) (sR S k 9 (some x)) (by rw [cell_4 hk]; simp [gI_sR, gJ_sR, gR_sR]; rfl) cell_sR hdg kk
theorem pf_4_10 (hexec : p.tables.exec = Jvm.exec) (hb : c.code = cc) (hts : ∀ w ∈ Ts, w.before args s = true) (hin : ∀ w ∈ wsX40, w ∈ Ts) (hown : s.vm.findClass own = some m.cls) (hK : va_K D vwCl (tysC cy) s) (hP : HP D cy b0 N S H) (hS : va_S (AA b0) H0 H locs) {k : Nat} (hkN : k < N) (hk : kd k = 4) (hin2 : meth.name = "<init>") (hdecl : (TX4 10).1 = own) {x : Nat} (hlink : (Cond.fieldLink own index (TX4 10).1 (TX4 10).2.1 (TX4 10).2.2.1).before args s = true) (hdg : decode cc pc = .ok (.putfield index, 3)) (kk : ∀ (H1 : Heap) (locs1 : List Loc), H1.size = H.size → HP D cy b0 N (sR S k 10 (some x)) H1 → va_S (AA b0) H0 H1 locs1 → W p l e R s m args below meth c H1 locs1 cells slots Q (F0 m (pc + 3) ls rest)) : W p l e R s m args below meth c H locs cells slots Q (F0 m pc ls (.ref (b0 + x) :: .ref (b0 + k) :: rest)) :=
  q_putF (C := RX4) (T := TX4) (NF := 13) (ty := tyX4 10) hexec hb hts hin tyX4 tyX4_ok nmX4 hown hK hP hS hkN (cell_4 hk) rfl 10 (by decide) hlink rfl hin2 hdecl (tyX4_ok 10 (by decide)) rfl rfl (by show 10 < 13; decide) (sR S k 10 (some x)) (by rw [cell_4 hk]; simp [gI_sR, gJ_sR, gR_sR]; rfl) cell_sR hdg kk
theorem pf_4_11 (hexec : p.tables.exec = Jvm.exec) (hb : c.code = cc) (hts : ∀ w ∈ Ts, w.before args s = true) (hin : ∀ w ∈ wsX40, w ∈ Ts) (hown : s.vm.findClass own = some m.cls) (hK : va_K D vwCl (tysC cy) s) (hP : HP D cy b0 N S H) (hS : va_S (AA b0) H0 H locs) {k : Nat} (hkN : k < N) (hk : kd k = 4) (hin2 : meth.name = "<init>") (hdecl : (TX4 11).1 = own) {x : Nat} (hlink : (Cond.fieldLink own index (TX4 11).1 (TX4 11).2.1 (TX4 11).2.2.1).before args s = true) (hdg : decode cc pc = .ok (.putfield index, 3)) (kk : ∀ (H1 : Heap) (locs1 : List Loc), H1.size = H.size → HP D cy b0 N (sR S k 11 (some x)) H1 → va_S (AA b0) H0 H1 locs1 → W p l e R s m args below meth c H1 locs1 cells slots Q (F0 m (pc + 3) ls rest)) : W p l e R s m args below meth c H locs cells slots Q (F0 m pc ls (.ref (b0 + x) :: .ref (b0 + k) :: rest)) :=
  q_putF (C := RX4) (T := TX4) (NF := 13) (ty := tyX4 11) hexec hb hts hin tyX4 tyX4_ok nmX4 hown hK hP hS hkN (cell_4 hk) rfl 11 (by decide) hlink rfl hin2 hdecl (tyX4_ok 11 (by decide)) rfl rfl (by show 11 < 13; decide) (sR S k 11 (some x)) (by rw [cell_4 hk]; simp [gI_sR, gJ_sR, gR_sR]; rfl) cell_sR hdg kk
theorem pf_4_12 (hexec : p.tables.exec = Jvm.exec) (hb : c.code = cc) (hts : ∀ w ∈ Ts, w.before args s = true) (hin : ∀ w ∈ wsX40, w ∈ Ts) (hown : s.vm.findClass own = some m.cls) (hK : va_K D vwCl (tysC cy) s) (hP : HP D cy b0 N S H) (hS : va_S (AA b0) H0 H locs) {k : Nat} (hkN : k < N) (hk : kd k = 4) {x : Int32} (hlink : (Cond.fieldLink own index (TX4 12).1 (TX4 12).2.1 (TX4 12).2.2.1).before args s = true) (hdg : decode cc pc = .ok (.putfield index, 3)) (kk : ∀ (H1 : Heap) (locs1 : List Loc), H1.size = H.size → HP D cy b0 N (sI S k 12 x) H1 → va_S (AA b0) H0 H1 locs1 → W p l e R s m args below meth c H1 locs1 cells slots Q (F0 m (pc + 3) ls rest)) : W p l e R s m args below meth c H locs cells slots Q (F0 m pc ls (.int x :: .ref (b0 + k) :: rest)) :=
  q_put (C := RX4) (T := TX4) (NF := 13) (ty := tyX4 12) hexec hb hts hin tyX4 tyX4_ok nmX4 hown hK hP hS hkN (cell_4 hk) rfl 12 (by decide) hlink rfl (tyX4_ok 12 (by decide)) rfl rfl (by show 12 < 13; decide) (sI S k 12 x) (by rw [cell_4 hk]; simp [gI_sI, gJ_sI, gR_sI]) cell_sI hdg kk
theorem pf_5_0 (hexec : p.tables.exec = Jvm.exec) (hb : c.code = cc) (hts : ∀ w ∈ Ts, w.before args s = true) (hin : ∀ w ∈ wsX50, w ∈ Ts) (hown : s.vm.findClass own = some m.cls) (hK : va_K D vwCl (tysC cy) s) (hP : HP D cy b0 N S H) (hS : va_S (AA b0) H0 H locs) {k : Nat} (hkN : k < N) (hk : kd k = 5) (hin2 : meth.name = "<init>") (hdecl : (TX5 0).1 = own) {x : Nat} (hlink : (Cond.fieldLink own index (TX5 0).1 (TX5 0).2.1 (TX5 0).2.2.1).before args s = true) (hdg : decode cc pc = .ok (.putfield index, 3)) (kk : ∀ (H1 : Heap) (locs1 : List Loc), H1.size = H.size → HP D cy b0 N (sR S k 0 (some x)) H1 → va_S (AA b0) H0 H1 locs1 → W p l e R s m args below meth c H1 locs1 cells slots Q (F0 m (pc + 3) ls rest)) : W p l e R s m args below meth c H locs cells slots Q (F0 m pc ls (.ref (b0 + x) :: .ref (b0 + k) :: rest)) :=
  q_putF (C := RX5) (T := TX5) (NF := 8) (ty := tyX5 0) hexec hb hts hin tyX5 tyX5_ok nmX5 hown hK hP hS hkN (cell_5 hk) rfl 0 (by decide) hlink rfl hin2 hdecl (tyX5_ok 0 (by decide)) rfl rfl (by show 0 < 8; decide) (sR S k 0 (some x)) (by rw [cell_5 hk]; simp [gI_sR, gJ_sR, gR_sR]; rfl) cell_sR hdg kk
theorem pf_5_1 (hexec : p.tables.exec = Jvm.exec) (hb : c.code = cc) (hts : ∀ w ∈ Ts, w.before args s = true) (hin : ∀ w ∈ wsX50, w ∈ Ts) (hown : s.vm.findClass own = some m.cls) (hK : va_K D vwCl (tysC cy) s) (hP : HP D cy b0 N S H) (hS : va_S (AA b0) H0 H locs) {k : Nat} (hkN : k < N) (hk : kd k = 5) (hin2 : meth.name = "<init>") (hdecl : (TX5 1).1 = own) {x : Nat} (hlink : (Cond.fieldLink own index (TX5 1).1 (TX5 1).2.1 (TX5 1).2.2.1).before args s = true) (hdg : decode cc pc = .ok (.putfield index, 3)) (kk : ∀ (H1 : Heap) (locs1 : List Loc), H1.size = H.size → HP D cy b0 N (sR S k 1 (some x)) H1 → va_S (AA b0) H0 H1 locs1 → W p l e R s m args below meth c H1 locs1 cells slots Q (F0 m (pc + 3) ls rest)) : W p l e R s m args below meth c H locs cells slots Q (F0 m pc ls (.ref (b0 + x) :: .ref (b0 + k) :: rest)) :=
  q_putF (C := RX5) (T := TX5) (NF := 8) (ty := tyX5 1) hexec hb hts hin tyX5 tyX5_ok nmX5 hown hK hP hS hkN (cell_5 hk) rfl 1 (by decide) hlink rfl hin2 hdecl (tyX5_ok 1 (by decide)) rfl rfl (by show 1 < 8; decide) (sR S k 1 (some x)) (by rw [cell_5 hk]; simp [gI_sR, gJ_sR, gR_sR]; rfl) cell_sR hdg kk
theorem pf_5_2 (hexec : p.tables.exec = Jvm.exec) (hb : c.code = cc) (hts : ∀ w ∈ Ts, w.before args s = true) (hin : ∀ w ∈ wsX50, w ∈ Ts) (hown : s.vm.findClass own = some m.cls) (hK : va_K D vwCl (tysC cy) s) (hP : HP D cy b0 N S H) (hS : va_S (AA b0) H0 H locs) {k : Nat} (hkN : k < N) (hk : kd k = 5) (hin2 : meth.name = "<init>") (hdecl : (TX5 2).1 = own) {x : Nat} (hlink : (Cond.fieldLink own index (TX5 2).1 (TX5 2).2.1 (TX5 2).2.2.1).before args s = true) (hdg : decode cc pc = .ok (.putfield index, 3)) (kk : ∀ (H1 : Heap) (locs1 : List Loc), H1.size = H.size → HP D cy b0 N (sR S k 2 (some x)) H1 → va_S (AA b0) H0 H1 locs1 → W p l e R s m args below meth c H1 locs1 cells slots Q (F0 m (pc + 3) ls rest)) : W p l e R s m args below meth c H locs cells slots Q (F0 m pc ls (.ref (b0 + x) :: .ref (b0 + k) :: rest)) :=
  q_putF (C := RX5) (T := TX5) (NF := 8) (ty := tyX5 2) hexec hb hts hin tyX5 tyX5_ok nmX5 hown hK hP hS hkN (cell_5 hk) rfl 2 (by decide) hlink rfl hin2 hdecl (tyX5_ok 2 (by decide)) rfl rfl (by show 2 < 8; decide) (sR S k 2 (some x)) (by rw [cell_5 hk]; simp [gI_sR, gJ_sR, gR_sR]; rfl) cell_sR hdg kk
theorem pf_5_3 (hexec : p.tables.exec = Jvm.exec) (hb : c.code = cc) (hts : ∀ w ∈ Ts, w.before args s = true) (hin : ∀ w ∈ wsX50, w ∈ Ts) (hown : s.vm.findClass own = some m.cls) (hK : va_K D vwCl (tysC cy) s) (hP : HP D cy b0 N S H) (hS : va_S (AA b0) H0 H locs) {k : Nat} (hkN : k < N) (hk : kd k = 5) (hin2 : meth.name = "<init>") (hdecl : (TX5 3).1 = own) {x : Nat} (hlink : (Cond.fieldLink own index (TX5 3).1 (TX5 3).2.1 (TX5 3).2.2.1).before args s = true) (hdg : decode cc pc = .ok (.putfield index, 3)) (kk : ∀ (H1 : Heap) (locs1 : List Loc), H1.size = H.size → HP D cy b0 N (sR S k 3 (some x)) H1 → va_S (AA b0) H0 H1 locs1 → W p l e R s m args below meth c H1 locs1 cells slots Q (F0 m (pc + 3) ls rest)) : W p l e R s m args below meth c H locs cells slots Q (F0 m pc ls (.ref (b0 + x) :: .ref (b0 + k) :: rest)) :=
  q_putF (C := RX5) (T := TX5) (NF := 8) (ty := tyX5 3) hexec hb hts hin tyX5 tyX5_ok nmX5 hown hK hP hS hkN (cell_5 hk) rfl 3 (by decide) hlink rfl hin2 hdecl (tyX5_ok 3 (by decide)) rfl rfl (by show 3 < 8; decide) (sR S k 3 (some x)) (by rw [cell_5 hk]; simp [gI_sR, gJ_sR, gR_sR]; rfl) cell_sR hdg kk
theorem pf_5_4 (hexec : p.tables.exec = Jvm.exec) (hb : c.code = cc) (hts : ∀ w ∈ Ts, w.before args s = true) (hin : ∀ w ∈ wsX50, w ∈ Ts) (hown : s.vm.findClass own = some m.cls) (hK : va_K D vwCl (tysC cy) s) (hP : HP D cy b0 N S H) (hS : va_S (AA b0) H0 H locs) {k : Nat} (hkN : k < N) (hk : kd k = 5) {x : Int32} (hlink : (Cond.fieldLink own index (TX5 4).1 (TX5 4).2.1 (TX5 4).2.2.1).before args s = true) (hdg : decode cc pc = .ok (.putfield index, 3)) (kk : ∀ (H1 : Heap) (locs1 : List Loc), H1.size = H.size → HP D cy b0 N (sI S k 4 x) H1 → va_S (AA b0) H0 H1 locs1 → W p l e R s m args below meth c H1 locs1 cells slots Q (F0 m (pc + 3) ls rest)) : W p l e R s m args below meth c H locs cells slots Q (F0 m pc ls (.int x :: .ref (b0 + k) :: rest)) :=
  q_put (C := RX5) (T := TX5) (NF := 8) (ty := tyX5 4) hexec hb hts hin tyX5 tyX5_ok nmX5 hown hK hP hS hkN (cell_5 hk) rfl 4 (by decide) hlink rfl (tyX5_ok 4 (by decide)) rfl rfl (by show 4 < 8; decide) (sI S k 4 x) (by rw [cell_5 hk]; simp [gI_sI, gJ_sI, gR_sI]) cell_sI hdg kk
theorem pf_5_5 (hexec : p.tables.exec = Jvm.exec) (hb : c.code = cc) (hts : ∀ w ∈ Ts, w.before args s = true) (hin : ∀ w ∈ wsX50, w ∈ Ts) (hown : s.vm.findClass own = some m.cls) (hK : va_K D vwCl (tysC cy) s) (hP : HP D cy b0 N S H) (hS : va_S (AA b0) H0 H locs) {k : Nat} (hkN : k < N) (hk : kd k = 5) (hin2 : meth.name = "<init>") (hdecl : (TX5 5).1 = own) {x : Nat} (hlink : (Cond.fieldLink own index (TX5 5).1 (TX5 5).2.1 (TX5 5).2.2.1).before args s = true) (hdg : decode cc pc = .ok (.putfield index, 3)) (kk : ∀ (H1 : Heap) (locs1 : List Loc), H1.size = H.size → HP D cy b0 N (sR S k 5 (some x)) H1 → va_S (AA b0) H0 H1 locs1 → W p l e R s m args below meth c H1 locs1 cells slots Q (F0 m (pc + 3) ls rest)) : W p l e R s m args below meth c H locs cells slots Q (F0 m pc ls (.ref (b0 + x) :: .ref (b0 + k) :: rest)) :=
  q_putF (C := RX5) (T := TX5) (NF := 8) (ty := tyX5 5) hexec hb hts hin tyX5 tyX5_ok nmX5 hown hK hP hS hkN (cell_5 hk) rfl 5 (by decide) hlink rfl hin2 hdecl (tyX5_ok 5 (by decide)) rfl rfl (by show 5 < 8; decide) (sR S k 5 (some x)) (by rw [cell_5 hk]; simp [gI_sR, gJ_sR, gR_sR]; rfl) cell_sR hdg kk
theorem pf_5_6 (hexec : p.tables.exec = Jvm.exec) (hb : c.code = cc) (hts : ∀ w ∈ Ts, w.before args s = true) (hin : ∀ w ∈ wsX50, w ∈ Ts) (hown : s.vm.findClass own = some m.cls) (hK : va_K D vwCl (tysC cy) s) (hP : HP D cy b0 N S H) (hS : va_S (AA b0) H0 H locs) {k : Nat} (hkN : k < N) (hk : kd k = 5) (hin2 : meth.name = "<init>") (hdecl : (TX5 6).1 = own) {x : Nat} (hlink : (Cond.fieldLink own index (TX5 6).1 (TX5 6).2.1 (TX5 6).2.2.1).before args s = true) (hdg : decode cc pc = .ok (.putfield index, 3)) (kk : ∀ (H1 : Heap) (locs1 : List Loc), H1.size = H.size → HP D cy b0 N (sR S k 6 (some x)) H1 → va_S (AA b0) H0 H1 locs1 → W p l e R s m args below meth c H1 locs1 cells slots Q (F0 m (pc + 3) ls rest)) : W p l e R s m args below meth c H locs cells slots Q (F0 m pc ls (.ref (b0 + x) :: .ref (b0 + k) :: rest)) :=
  q_putF (C := RX5) (T := TX5) (NF := 8) (ty := tyX5 6) hexec hb hts hin tyX5 tyX5_ok nmX5 hown hK hP hS hkN (cell_5 hk) rfl 6 (by decide) hlink rfl hin2 hdecl (tyX5_ok 6 (by decide)) rfl rfl (by show 6 < 8; decide) (sR S k 6 (some x)) (by rw [cell_5 hk]; simp [gI_sR, gJ_sR, gR_sR]; rfl) cell_sR hdg kk
theorem pf_5_7 (hexec : p.tables.exec = Jvm.exec) (hb : c.code = cc) (hts : ∀ w ∈ Ts, w.before args s = true) (hin : ∀ w ∈ wsX50, w ∈ Ts) (hown : s.vm.findClass own = some m.cls) (hK : va_K D vwCl (tysC cy) s) (hP : HP D cy b0 N S H) (hS : va_S (AA b0) H0 H locs) {k : Nat} (hkN : k < N) (hk : kd k = 5) {x : Int32} (hlink : (Cond.fieldLink own index (TX5 7).1 (TX5 7).2.1 (TX5 7).2.2.1).before args s = true) (hdg : decode cc pc = .ok (.putfield index, 3)) (kk : ∀ (H1 : Heap) (locs1 : List Loc), H1.size = H.size → HP D cy b0 N (sI S k 7 x) H1 → va_S (AA b0) H0 H1 locs1 → W p l e R s m args below meth c H1 locs1 cells slots Q (F0 m (pc + 3) ls rest)) : W p l e R s m args below meth c H locs cells slots Q (F0 m pc ls (.int x :: .ref (b0 + k) :: rest)) :=
  q_put (C := RX5) (T := TX5) (NF := 8) (ty := tyX5 7) hexec hb hts hin tyX5 tyX5_ok nmX5 hown hK hP hS hkN (cell_5 hk) rfl 7 (by decide) hlink rfl (tyX5_ok 7 (by decide)) rfl rfl (by show 7 < 8; decide) (sI S k 7 x) (by rw [cell_5 hk]; simp [gI_sI, gJ_sI, gR_sI]) cell_sI hdg kk
theorem pf_6_0 (hexec : p.tables.exec = Jvm.exec) (hb : c.code = cc) (hts : ∀ w ∈ Ts, w.before args s = true) (hin : ∀ w ∈ wsX60, w ∈ Ts) (hown : s.vm.findClass own = some m.cls) (hK : va_K D vwCl (tysC cy) s) (hP : HP D cy b0 N S H) (hS : va_S (AA b0) H0 H locs) {k : Nat} (hkN : k < N) (hk : kd k = 6) {x : Int32} (hlink : (Cond.fieldLink own index (TX6 0).1 (TX6 0).2.1 (TX6 0).2.2.1).before args s = true) (hdg : decode cc pc = .ok (.putfield index, 3)) (kk : ∀ (H1 : Heap) (locs1 : List Loc), H1.size = H.size → HP D cy b0 N (sI S k 0 x) H1 → va_S (AA b0) H0 H1 locs1 → W p l e R s m args below meth c H1 locs1 cells slots Q (F0 m (pc + 3) ls rest)) : W p l e R s m args below meth c H locs cells slots Q (F0 m pc ls (.int x :: .ref (b0 + k) :: rest)) :=
  q_put (C := RX6) (T := TX6) (NF := 28) (ty := tyX6 0) hexec hb hts hin tyX6 tyX6_ok nmX6 hown hK hP hS hkN (cell_6 hk) rfl 0 (by decide) hlink rfl (tyX6_ok 0 (by decide)) rfl rfl (by show 0 < 28; decide) (sI S k 0 x) (by rw [cell_6 hk]; simp [gI_sI, gJ_sI, gR_sI]) cell_sI hdg kk
theorem pf_6_1 (hexec : p.tables.exec = Jvm.exec) (hb : c.code = cc) (hts : ∀ w ∈ Ts, w.before args s = true) (hin : ∀ w ∈ wsX60, w ∈ Ts) (hown : s.vm.findClass own = some m.cls) (hK : va_K D vwCl (tysC cy) s) (hP : HP D cy b0 N S H) (hS : va_S (AA b0) H0 H locs) {k : Nat} (hkN : k < N) (hk : kd k = 6) {x : Int32} (hlink : (Cond.fieldLink own index (TX6 1).1 (TX6 1).2.1 (TX6 1).2.2.1).before args s = true) (hdg : decode cc pc = .ok (.putfield index, 3)) (kk : ∀ (H1 : Heap) (locs1 : List Loc), H1.size = H.size → HP D cy b0 N (sI S k 1 x) H1 → va_S (AA b0) H0 H1 locs1 → W p l e R s m args below meth c H1 locs1 cells slots Q (F0 m (pc + 3) ls rest)) : W p l e R s m args below meth c H locs cells slots Q (F0 m pc ls (.int x :: .ref (b0 + k) :: rest)) :=
  q_put (C := RX6) (T := TX6) (NF := 28) (ty := tyX6 1) hexec hb hts hin tyX6 tyX6_ok nmX6 hown hK hP hS hkN (cell_6 hk) rfl 1 (by decide) hlink rfl (tyX6_ok 1 (by decide)) rfl rfl (by show 1 < 28; decide) (sI S k 1 x) (by rw [cell_6 hk]; simp [gI_sI, gJ_sI, gR_sI]) cell_sI hdg kk
theorem pf_6_2 (hexec : p.tables.exec = Jvm.exec) (hb : c.code = cc) (hts : ∀ w ∈ Ts, w.before args s = true) (hin : ∀ w ∈ wsX60, w ∈ Ts) (hown : s.vm.findClass own = some m.cls) (hK : va_K D vwCl (tysC cy) s) (hP : HP D cy b0 N S H) (hS : va_S (AA b0) H0 H locs) {k : Nat} (hkN : k < N) (hk : kd k = 6) {x : Int32} (hlink : (Cond.fieldLink own index (TX6 2).1 (TX6 2).2.1 (TX6 2).2.2.1).before args s = true) (hdg : decode cc pc = .ok (.putfield index, 3)) (kk : ∀ (H1 : Heap) (locs1 : List Loc), H1.size = H.size → HP D cy b0 N (sI S k 2 x) H1 → va_S (AA b0) H0 H1 locs1 → W p l e R s m args below meth c H1 locs1 cells slots Q (F0 m (pc + 3) ls rest)) : W p l e R s m args below meth c H locs cells slots Q (F0 m pc ls (.int x :: .ref (b0 + k) :: rest)) :=
  q_put (C := RX6) (T := TX6) (NF := 28) (ty := tyX6 2) hexec hb hts hin tyX6 tyX6_ok nmX6 hown hK hP hS hkN (cell_6 hk) rfl 2 (by decide) hlink rfl (tyX6_ok 2 (by decide)) rfl rfl (by show 2 < 28; decide) (sI S k 2 x) (by rw [cell_6 hk]; simp [gI_sI, gJ_sI, gR_sI]) cell_sI hdg kk
theorem pf_6_3 (hexec : p.tables.exec = Jvm.exec) (hb : c.code = cc) (hts : ∀ w ∈ Ts, w.before args s = true) (hin : ∀ w ∈ wsX60, w ∈ Ts) (hown : s.vm.findClass own = some m.cls) (hK : va_K D vwCl (tysC cy) s) (hP : HP D cy b0 N S H) (hS : va_S (AA b0) H0 H locs) {k : Nat} (hkN : k < N) (hk : kd k = 6) {x : Int32} (hlink : (Cond.fieldLink own index (TX6 3).1 (TX6 3).2.1 (TX6 3).2.2.1).before args s = true) (hdg : decode cc pc = .ok (.putfield index, 3)) (kk : ∀ (H1 : Heap) (locs1 : List Loc), H1.size = H.size → HP D cy b0 N (sI S k 3 x) H1 → va_S (AA b0) H0 H1 locs1 → W p l e R s m args below meth c H1 locs1 cells slots Q (F0 m (pc + 3) ls rest)) : W p l e R s m args below meth c H locs cells slots Q (F0 m pc ls (.int x :: .ref (b0 + k) :: rest)) :=
  q_put (C := RX6) (T := TX6) (NF := 28) (ty := tyX6 3) hexec hb hts hin tyX6 tyX6_ok nmX6 hown hK hP hS hkN (cell_6 hk) rfl 3 (by decide) hlink rfl (tyX6_ok 3 (by decide)) rfl rfl (by show 3 < 28; decide) (sI S k 3 x) (by rw [cell_6 hk]; simp [gI_sI, gJ_sI, gR_sI]) cell_sI hdg kk
theorem pf_6_4 (hexec : p.tables.exec = Jvm.exec) (hb : c.code = cc) (hts : ∀ w ∈ Ts, w.before args s = true) (hin : ∀ w ∈ wsX60, w ∈ Ts) (hown : s.vm.findClass own = some m.cls) (hK : va_K D vwCl (tysC cy) s) (hP : HP D cy b0 N S H) (hS : va_S (AA b0) H0 H locs) {k : Nat} (hkN : k < N) (hk : kd k = 6) (hin2 : meth.name = "<init>") (hdecl : (TX6 4).1 = own) {x : Nat} (hlink : (Cond.fieldLink own index (TX6 4).1 (TX6 4).2.1 (TX6 4).2.2.1).before args s = true) (hdg : decode cc pc = .ok (.putfield index, 3)) (kk : ∀ (H1 : Heap) (locs1 : List Loc), H1.size = H.size → HP D cy b0 N (sR S k 4 (some x)) H1 → va_S (AA b0) H0 H1 locs1 → W p l e R s m args below meth c H1 locs1 cells slots Q (F0 m (pc + 3) ls rest)) : W p l e R s m args below meth c H locs cells slots Q (F0 m pc ls (.ref (b0 + x) :: .ref (b0 + k) :: rest)) :=
  q_putF (C := RX6) (T := TX6) (NF := 28) (ty := tyX6 4) hexec hb hts hin tyX6 tyX6_ok nmX6 hown hK hP hS hkN (cell_6 hk) rfl 4 (by decide) hlink rfl hin2 hdecl (tyX6_ok 4 (by decide)) rfl rfl (by show 4 < 28; decide) (sR S k 4 (some x)) (by rw [cell_6 hk]; simp [gI_sR, gJ_sR, gR_sR]; rfl) cell_sR hdg kk
theorem pf_6_5 (hexec : p.tables.exec = Jvm.exec) (hb : c.code = cc) (hts : ∀ w ∈ Ts, w.before args s = true) (hin : ∀ w ∈ wsX60, w ∈ Ts) (hown : s.vm.findClass own = some m.cls) (hK : va_K D vwCl (tysC cy) s) (hP : HP D cy b0 N S H) (hS : va_S (AA b0) H0 H locs) {k : Nat} (hkN : k < N) (hk : kd k = 6) (hin2 : meth.name = "<init>") (hdecl : (TX6 5).1 = own) {x : Nat} (hlink : (Cond.fieldLink own index (TX6 5).1 (TX6 5).2.1 (TX6 5).2.2.1).before args s = true) (hdg : decode cc pc = .ok (.putfield index, 3)) (kk : ∀ (H1 : Heap) (locs1 : List Loc), H1.size = H.size → HP D cy b0 N (sR S k 5 (some x)) H1 → va_S (AA b0) H0 H1 locs1 → W p l e R s m args below meth c H1 locs1 cells slots Q (F0 m (pc + 3) ls rest)) : W p l e R s m args below meth c H locs cells slots Q (F0 m pc ls (.ref (b0 + x) :: .ref (b0 + k) :: rest)) :=
  q_putF (C := RX6) (T := TX6) (NF := 28) (ty := tyX6 5) hexec hb hts hin tyX6 tyX6_ok nmX6 hown hK hP hS hkN (cell_6 hk) rfl 5 (by decide) hlink rfl hin2 hdecl (tyX6_ok 5 (by decide)) rfl rfl (by show 5 < 28; decide) (sR S k 5 (some x)) (by rw [cell_6 hk]; simp [gI_sR, gJ_sR, gR_sR]; rfl) cell_sR hdg kk
theorem pf_6_6 (hexec : p.tables.exec = Jvm.exec) (hb : c.code = cc) (hts : ∀ w ∈ Ts, w.before args s = true) (hin : ∀ w ∈ wsX60, w ∈ Ts) (hown : s.vm.findClass own = some m.cls) (hK : va_K D vwCl (tysC cy) s) (hP : HP D cy b0 N S H) (hS : va_S (AA b0) H0 H locs) {k : Nat} (hkN : k < N) (hk : kd k = 6) (hin2 : meth.name = "<init>") (hdecl : (TX6 6).1 = own) {x : Nat} (hlink : (Cond.fieldLink own index (TX6 6).1 (TX6 6).2.1 (TX6 6).2.2.1).before args s = true) (hdg : decode cc pc = .ok (.putfield index, 3)) (kk : ∀ (H1 : Heap) (locs1 : List Loc), H1.size = H.size → HP D cy b0 N (sR S k 6 (some x)) H1 → va_S (AA b0) H0 H1 locs1 → W p l e R s m args below meth c H1 locs1 cells slots Q (F0 m (pc + 3) ls rest)) : W p l e R s m args below meth c H locs cells slots Q (F0 m pc ls (.ref (b0 + x) :: .ref (b0 + k) :: rest)) :=
  q_putF (C := RX6) (T := TX6) (NF := 28) (ty := tyX6 6) hexec hb hts hin tyX6 tyX6_ok nmX6 hown hK hP hS hkN (cell_6 hk) rfl 6 (by decide) hlink rfl hin2 hdecl (tyX6_ok 6 (by decide)) rfl rfl (by show 6 < 28; decide) (sR S k 6 (some x)) (by rw [cell_6 hk]; simp [gI_sR, gJ_sR, gR_sR]; rfl) cell_sR hdg kk
theorem pf_6_7 (hexec : p.tables.exec = Jvm.exec) (hb : c.code = cc) (hts : ∀ w ∈ Ts, w.before args s = true) (hin : ∀ w ∈ wsX60, w ∈ Ts) (hown : s.vm.findClass own = some m.cls) (hK : va_K D vwCl (tysC cy) s) (hP : HP D cy b0 N S H) (hS : va_S (AA b0) H0 H locs) {k : Nat} (hkN : k < N) (hk : kd k = 6) (hin2 : meth.name = "<init>") (hdecl : (TX6 7).1 = own) {x : Nat} (hlink : (Cond.fieldLink own index (TX6 7).1 (TX6 7).2.1 (TX6 7).2.2.1).before args s = true) (hdg : decode cc pc = .ok (.putfield index, 3)) (kk : ∀ (H1 : Heap) (locs1 : List Loc), H1.size = H.size → HP D cy b0 N (sR S k 7 (some x)) H1 → va_S (AA b0) H0 H1 locs1 → W p l e R s m args below meth c H1 locs1 cells slots Q (F0 m (pc + 3) ls rest)) : W p l e R s m args below meth c H locs cells slots Q (F0 m pc ls (.ref (b0 + x) :: .ref (b0 + k) :: rest)) :=
  q_putF (C := RX6) (T := TX6) (NF := 28) (ty := tyX6 7) hexec hb hts hin tyX6 tyX6_ok nmX6 hown hK hP hS hkN (cell_6 hk) rfl 7 (by decide) hlink rfl hin2 hdecl (tyX6_ok 7 (by decide)) rfl rfl (by show 7 < 28; decide) (sR S k 7 (some x)) (by rw [cell_6 hk]; simp [gI_sR, gJ_sR, gR_sR]; rfl) cell_sR hdg kk
theorem pf_6_8 (hexec : p.tables.exec = Jvm.exec) (hb : c.code = cc) (hts : ∀ w ∈ Ts, w.before args s = true) (hin : ∀ w ∈ wsX60, w ∈ Ts) (hown : s.vm.findClass own = some m.cls) (hK : va_K D vwCl (tysC cy) s) (hP : HP D cy b0 N S H) (hS : va_S (AA b0) H0 H locs) {k : Nat} (hkN : k < N) (hk : kd k = 6) (hin2 : meth.name = "<init>") (hdecl : (TX6 8).1 = own) {x : Nat} (hlink : (Cond.fieldLink own index (TX6 8).1 (TX6 8).2.1 (TX6 8).2.2.1).before args s = true) (hdg : decode cc pc = .ok (.putfield index, 3)) (kk : ∀ (H1 : Heap) (locs1 : List Loc), H1.size = H.size → HP D cy b0 N (sR S k 8 (some x)) H1 → va_S (AA b0) H0 H1 locs1 → W p l e R s m args below meth c H1 locs1 cells slots Q (F0 m (pc + 3) ls rest)) : W p l e R s m args below meth c H locs cells slots Q (F0 m pc ls (.ref (b0 + x) :: .ref (b0 + k) :: rest)) :=
  q_putF (C := RX6) (T := TX6) (NF := 28) (ty := tyX6 8) hexec hb hts hin tyX6 tyX6_ok nmX6 hown hK hP hS hkN (cell_6 hk) rfl 8 (by decide) hlink rfl hin2 hdecl (tyX6_ok 8 (by decide)) rfl rfl (by show 8 < 28; decide) (sR S k 8 (some x)) (by rw [cell_6 hk]; simp [gI_sR, gJ_sR, gR_sR]; rfl) cell_sR hdg kk
theorem pf_6_9 (hexec : p.tables.exec = Jvm.exec) (hb : c.code = cc) (hts : ∀ w ∈ Ts, w.before args s = true) (hin : ∀ w ∈ wsX60, w ∈ Ts) (hown : s.vm.findClass own = some m.cls) (hK : va_K D vwCl (tysC cy) s) (hP : HP D cy b0 N S H) (hS : va_S (AA b0) H0 H locs) {k : Nat} (hkN : k < N) (hk : kd k = 6) (hin2 : meth.name = "<init>") (hdecl : (TX6 9).1 = own) {x : Nat} (hlink : (Cond.fieldLink own index (TX6 9).1 (TX6 9).2.1 (TX6 9).2.2.1).before args s = true) (hdg : decode cc pc = .ok (.putfield index, 3)) (kk : ∀ (H1 : Heap) (locs1 : List Loc), H1.size = H.size → HP D cy b0 N (sR S k 9 (some x)) H1 → va_S (AA b0) H0 H1 locs1 → W p l e R s m args below meth c H1 locs1 cells slots Q (F0 m (pc + 3) ls rest)) : W p l e R s m args below meth c H locs cells slots Q (F0 m pc ls (.ref (b0 + x) :: .ref (b0 + k) :: rest)) :=
  q_putF (C := RX6) (T := TX6) (NF := 28) (ty := tyX6 9) hexec hb hts hin tyX6 tyX6_ok nmX6 hown hK hP hS hkN (cell_6 hk) rfl 9 (by decide) hlink rfl hin2 hdecl (tyX6_ok 9 (by decide)) rfl rfl (by show 9 < 28; decide) (sR S k 9 (some x)) (by rw [cell_6 hk]; simp [gI_sR, gJ_sR, gR_sR]; rfl) cell_sR hdg kk
theorem pf_6_10 (hexec : p.tables.exec = Jvm.exec) (hb : c.code = cc) (hts : ∀ w ∈ Ts, w.before args s = true) (hin : ∀ w ∈ wsX60, w ∈ Ts) (hown : s.vm.findClass own = some m.cls) (hK : va_K D vwCl (tysC cy) s) (hP : HP D cy b0 N S H) (hS : va_S (AA b0) H0 H locs) {k : Nat} (hkN : k < N) (hk : kd k = 6) {x : Int32} (hlink : (Cond.fieldLink own index (TX6 10).1 (TX6 10).2.1 (TX6 10).2.2.1).before args s = true) (hdg : decode cc pc = .ok (.putfield index, 3)) (kk : ∀ (H1 : Heap) (locs1 : List Loc), H1.size = H.size → HP D cy b0 N (sI S k 10 x) H1 → va_S (AA b0) H0 H1 locs1 → W p l e R s m args below meth c H1 locs1 cells slots Q (F0 m (pc + 3) ls rest)) : W p l e R s m args below meth c H locs cells slots Q (F0 m pc ls (.int x :: .ref (b0 + k) :: rest)) :=
  q_put (C := RX6) (T := TX6) (NF := 28) (ty := tyX6 10) hexec hb hts hin tyX6 tyX6_ok nmX6 hown hK hP hS hkN (cell_6 hk) rfl 10 (by decide) hlink rfl (tyX6_ok 10 (by decide)) rfl rfl (by show 10 < 28; decide) (sI S k 10 x) (by rw [cell_6 hk]; simp [gI_sI, gJ_sI, gR_sI]) cell_sI hdg kk
theorem pf_6_11 (hexec : p.tables.exec = Jvm.exec) (hb : c.code = cc) (hts : ∀ w ∈ Ts, w.before args s = true) (hin : ∀ w ∈ wsX60, w ∈ Ts) (hown : s.vm.findClass own = some m.cls) (hK : va_K D vwCl (tysC cy) s) (hP : HP D cy b0 N S H) (hS : va_S (AA b0) H0 H locs) {k : Nat} (hkN : k < N) (hk : kd k = 6) (hin2 : meth.name = "<init>") (hdecl : (TX6 11).1 = own) {x : Nat} (hlink : (Cond.fieldLink own index (TX6 11).1 (TX6 11).2.1 (TX6 11).2.2.1).before args s = true) (hdg : decode cc pc = .ok (.putfield index, 3)) (kk : ∀ (H1 : Heap) (locs1 : List Loc), H1.size = H.size → HP D cy b0 N (sR S k 11 (some x)) H1 → va_S (AA b0) H0 H1 locs1 → W p l e R s m args below meth c H1 locs1 cells slots Q (F0 m (pc + 3) ls rest)) : W p l e R s m args below meth c H locs cells slots Q (F0 m pc ls (.ref (b0 + x) :: .ref (b0 + k) :: rest)) :=
  q_putF (C := RX6) (T := TX6) (NF := 28) (ty := tyX6 11) hexec hb hts hin tyX6 tyX6_ok nmX6 hown hK hP hS hkN (cell_6 hk) rfl 11 (by decide) hlink rfl hin2 hdecl (tyX6_ok 11 (by decide)) rfl rfl (by show 11 < 28; decide) (sR S k 11 (some x)) (by rw [cell_6 hk]; simp [gI_sR, gJ_sR, gR_sR]; rfl) cell_sR hdg kk
theorem pf_6_12 (hexec : p.tables.exec = Jvm.exec) (hb : c.code = cc) (hts : ∀ w ∈ Ts, w.before args s = true) (hin : ∀ w ∈ wsX60, w ∈ Ts) (hown : s.vm.findClass own = some m.cls) (hK : va_K D vwCl (tysC cy) s) (hP : HP D cy b0 N S H) (hS : va_S (AA b0) H0 H locs) {k : Nat} (hkN : k < N) (hk : kd k = 6) (hin2 : meth.name = "<init>") (hdecl : (TX6 12).1 = own) {x : Nat} (hlink : (Cond.fieldLink own index (TX6 12).1 (TX6 12).2.1 (TX6 12).2.2.1).before args s = true) (hdg : decode cc pc = .ok (.putfield index, 3)) (kk : ∀ (H1 : Heap) (locs1 : List Loc), H1.size = H.size → HP D cy b0 N (sR S k 12 (some x)) H1 → va_S (AA b0) H0 H1 locs1 → W p l e R s m args below meth c H1 locs1 cells slots Q (F0 m (pc + 3) ls rest)) : W p l e R s m args below meth c H locs cells slots Q (F0 m pc ls (.ref (b0 + x) :: .ref (b0 + k) :: rest)) :=
  q_putF (C := RX6) (T := TX6) (NF := 28) (ty := tyX6 12) hexec hb hts hin tyX6 tyX6_ok nmX6 hown hK hP hS hkN (cell_6 hk) rfl 12 (by decide) hlink rfl hin2 hdecl (tyX6_ok 12 (by decide)) rfl rfl (by show 12 < 28; decide) (sR S k 12 (some x)) (by rw [cell_6 hk]; simp [gI_sR, gJ_sR, gR_sR]; rfl) cell_sR hdg kk
theorem pf_6_13 (hexec : p.tables.exec = Jvm.exec) (hb : c.code = cc) (hts : ∀ w ∈ Ts, w.before args s = true) (hin : ∀ w ∈ wsX60, w ∈ Ts) (hown : s.vm.findClass own = some m.cls) (hK : va_K D vwCl (tysC cy) s) (hP : HP D cy b0 N S H) (hS : va_S (AA b0) H0 H locs) {k : Nat} (hkN : k < N) (hk : kd k = 6) {x : Int32} (hlink : (Cond.fieldLink own index (TX6 13).1 (TX6 13).2.1 (TX6 13).2.2.1).before args s = true) (hdg : decode cc pc = .ok (.putfield index, 3)) (kk : ∀ (H1 : Heap) (locs1 : List Loc), H1.size = H.size → HP D cy b0 N (sI S k 13 x) H1 → va_S (AA b0) H0 H1 locs1 → W p l e R s m args below meth c H1 locs1 cells slots Q (F0 m (pc + 3) ls rest)) : W p l e R s m args below meth c H locs cells slots Q (F0 m pc ls (.int x :: .ref (b0 + k) :: rest)) :=
  q_put (C := RX6) (T := TX6) (NF := 28) (ty := tyX6 13) hexec hb hts hin tyX6 tyX6_ok nmX6 hown hK hP hS hkN (cell_6 hk) rfl 13 (by decide) hlink rfl (tyX6_ok 13 (by decide)) rfl rfl (by show 13 < 28; decide) (sI S k 13 x) (by rw [cell_6 hk]; simp [gI_sI, gJ_sI, gR_sI]) cell_sI hdg kk
theorem pf_6_14 (hexec : p.tables.exec = Jvm.exec) (hb : c.code = cc) (hts : ∀ w ∈ Ts, w.before args s = true) (hin : ∀ w ∈ wsX60, w ∈ Ts) (hown : s.vm.findClass own = some m.cls) (hK : va_K D vwCl (tysC cy) s) (hP : HP D cy b0 N S H) (hS : va_S (AA b0) H0 H locs) {k : Nat} (hkN : k < N) (hk : kd k = 6) (hin2 : meth.name = "<init>") (hdecl : (TX6 14).1 = own) {x : Nat} (hlink : (Cond.fieldLink own index (TX6 14).1 (TX6 14).2.1 (TX6 14).2.2.1).before args s = true) (hdg : decode cc pc = .ok (.putfield index, 3)) (kk : ∀ (H1 : Heap) (locs1 : List Loc), H1.size = H.size → HP D cy b0 N (sR S k 14 (some x)) H1 → va_S (AA b0) H0 H1 locs1 → W p l e R s m args below meth c H1 locs1 cells slots Q (F0 m (pc + 3) ls rest)) : W p l e R s m args below meth c H locs cells slots Q (F0 m pc ls (.ref (b0 + x) :: .ref (b0 + k) :: rest)) :=
  q_putF (C := RX6) (T := TX6) (NF := 28) (ty := tyX6 14) hexec hb hts hin tyX6 tyX6_ok nmX6 hown hK hP hS hkN (cell_6 hk) rfl 14 (by decide) hlink rfl hin2 hdecl (tyX6_ok 14 (by decide)) rfl rfl (by show 14 < 28; decide) (sR S k 14 (some x)) (by rw [cell_6 hk]; simp [gI_sR, gJ_sR, gR_sR]; rfl) cell_sR hdg kk
theorem pf_6_15 (hexec : p.tables.exec = Jvm.exec) (hb : c.code = cc) (hts : ∀ w ∈ Ts, w.before args s = true) (hin : ∀ w ∈ wsX60, w ∈ Ts) (hown : s.vm.findClass own = some m.cls) (hK : va_K D vwCl (tysC cy) s) (hP : HP D cy b0 N S H) (hS : va_S (AA b0) H0 H locs) {k : Nat} (hkN : k < N) (hk : kd k = 6) (hin2 : meth.name = "<init>") (hdecl : (TX6 15).1 = own) {x : Nat} (hlink : (Cond.fieldLink own index (TX6 15).1 (TX6 15).2.1 (TX6 15).2.2.1).before args s = true) (hdg : decode cc pc = .ok (.putfield index, 3)) (kk : ∀ (H1 : Heap) (locs1 : List Loc), H1.size = H.size → HP D cy b0 N (sR S k 15 (some x)) H1 → va_S (AA b0) H0 H1 locs1 → W p l e R s m args below meth c H1 locs1 cells slots Q (F0 m (pc + 3) ls rest)) : W p l e R s m args below meth c H locs cells slots Q (F0 m pc ls (.ref (b0 + x) :: .ref (b0 + k) :: rest)) :=
  q_putF (C := RX6) (T := TX6) (NF := 28) (ty := tyX6 15) hexec hb hts hin tyX6 tyX6_ok nmX6 hown hK hP hS hkN (cell_6 hk) rfl 15 (by decide) hlink rfl hin2 hdecl (tyX6_ok 15 (by decide)) rfl rfl (by show 15 < 28; decide) (sR S k 15 (some x)) (by rw [cell_6 hk]; simp [gI_sR, gJ_sR, gR_sR]; rfl) cell_sR hdg kk
theorem pf_6_16 (hexec : p.tables.exec = Jvm.exec) (hb : c.code = cc) (hts : ∀ w ∈ Ts, w.before args s = true) (hin : ∀ w ∈ wsX60, w ∈ Ts) (hown : s.vm.findClass own = some m.cls) (hK : va_K D vwCl (tysC cy) s) (hP : HP D cy b0 N S H) (hS : va_S (AA b0) H0 H locs) {k : Nat} (hkN : k < N) (hk : kd k = 6) (hin2 : meth.name = "<init>") (hdecl : (TX6 16).1 = own) {x : Nat} (hlink : (Cond.fieldLink own index (TX6 16).1 (TX6 16).2.1 (TX6 16).2.2.1).before args s = true) (hdg : decode cc pc = .ok (.putfield index, 3)) (kk : ∀ (H1 : Heap) (locs1 : List Loc), H1.size = H.size → HP D cy b0 N (sR S k 16 (some x)) H1 → va_S (AA b0) H0 H1 locs1 → W p l e R s m args below meth c H1 locs1 cells slots Q (F0 m (pc + 3) ls rest)) : W p l e R s m args below meth c H locs cells slots Q (F0 m pc ls (.ref (b0 + x) :: .ref (b0 + k) :: rest)) :=
  q_putF (C := RX6) (T := TX6) (NF := 28) (ty := tyX6 16) hexec hb hts hin tyX6 tyX6_ok nmX6 hown hK hP hS hkN (cell_6 hk) rfl 16 (by decide) hlink rfl hin2 hdecl (tyX6_ok 16 (by decide)) rfl rfl (by show 16 < 28; decide) (sR S k 16 (some x)) (by rw [cell_6 hk]; simp [gI_sR, gJ_sR, gR_sR]; rfl) cell_sR hdg kk
theorem pf_6_17 (hexec : p.tables.exec = Jvm.exec) (hb : c.code = cc) (hts : ∀ w ∈ Ts, w.before args s = true) (hin : ∀ w ∈ wsX60, w ∈ Ts) (hown : s.vm.findClass own = some m.cls) (hK : va_K D vwCl (tysC cy) s) (hP : HP D cy b0 N S H) (hS : va_S (AA b0) H0 H locs) {k : Nat} (hkN : k < N) (hk : kd k = 6) (hin2 : meth.name = "<init>") (hdecl : (TX6 17).1 = own) {x : Nat} (hlink : (Cond.fieldLink own index (TX6 17).1 (TX6 17).2.1 (TX6 17).2.2.1).before args s = true) (hdg : decode cc pc = .ok (.putfield index, 3)) (kk : ∀ (H1 : Heap) (locs1 : List Loc), H1.size = H.size → HP D cy b0 N (sR S k 17 (some x)) H1 → va_S (AA b0) H0 H1 locs1 → W p l e R s m args below meth c H1 locs1 cells slots Q (F0 m (pc + 3) ls rest)) : W p l e R s m args below meth c H locs cells slots Q (F0 m pc ls (.ref (b0 + x) :: .ref (b0 + k) :: rest)) :=
  q_putF (C := RX6) (T := TX6) (NF := 28) (ty := tyX6 17) hexec hb hts hin tyX6 tyX6_ok nmX6 hown hK hP hS hkN (cell_6 hk) rfl 17 (by decide) hlink rfl hin2 hdecl (tyX6_ok 17 (by decide)) rfl rfl (by show 17 < 28; decide) (sR S k 17 (some x)) (by rw [cell_6 hk]; simp [gI_sR, gJ_sR, gR_sR]; rfl) cell_sR hdg kk
theorem pf_6_18 (hexec : p.tables.exec = Jvm.exec) (hb : c.code = cc) (hts : ∀ w ∈ Ts, w.before args s = true) (hin : ∀ w ∈ wsX60, w ∈ Ts) (hown : s.vm.findClass own = some m.cls) (hK : va_K D vwCl (tysC cy) s) (hP : HP D cy b0 N S H) (hS : va_S (AA b0) H0 H locs) {k : Nat} (hkN : k < N) (hk : kd k = 6) (hin2 : meth.name = "<init>") (hdecl : (TX6 18).1 = own) {x : Nat} (hlink : (Cond.fieldLink own index (TX6 18).1 (TX6 18).2.1 (TX6 18).2.2.1).before args s = true) (hdg : decode cc pc = .ok (.putfield index, 3)) (kk : ∀ (H1 : Heap) (locs1 : List Loc), H1.size = H.size → HP D cy b0 N (sR S k 18 (some x)) H1 → va_S (AA b0) H0 H1 locs1 → W p l e R s m args below meth c H1 locs1 cells slots Q (F0 m (pc + 3) ls rest)) : W p l e R s m args below meth c H locs cells slots Q (F0 m pc ls (.ref (b0 + x) :: .ref (b0 + k) :: rest)) :=
  q_putF (C := RX6) (T := TX6) (NF := 28) (ty := tyX6 18) hexec hb hts hin tyX6 tyX6_ok nmX6 hown hK hP hS hkN (cell_6 hk) rfl 18 (by decide) hlink rfl hin2 hdecl (tyX6_ok 18 (by decide)) rfl rfl (by show 18 < 28; decide) (sR S k 18 (some x)) (by rw [cell_6 hk]; simp [gI_sR, gJ_sR, gR_sR]; rfl) cell_sR hdg kk
theorem pf_6_19 (hexec : p.tables.exec = Jvm.exec) (hb : c.code = cc) (hts : ∀ w ∈ Ts, w.before args s = true) (hin : ∀ w ∈ wsX60, w ∈ Ts) (hown : s.vm.findClass own = some m.cls) (hK : va_K D vwCl (tysC cy) s) (hP : HP D cy b0 N S H) (hS : va_S (AA b0) H0 H locs) {k : Nat} (hkN : k < N) (hk : kd k = 6) (hin2 : meth.name = "<init>") (hdecl : (TX6 19).1 = own) {x : Nat} (hlink : (Cond.fieldLink own index (TX6 19).1 (TX6 19).2.1 (TX6 19).2.2.1).before args s = true) (hdg : decode cc pc = .ok (.putfield index, 3)) (kk : ∀ (H1 : Heap) (locs1 : List Loc), H1.size = H.size → HP D cy b0 N (sR S k 19 (some x)) H1 → va_S (AA b0) H0 H1 locs1 → W p l e R s m args below meth c H1 locs1 cells slots Q (F0 m (pc + 3) ls rest)) : W p l e R s m args below meth c H locs cells slots Q (F0 m pc ls (.ref (b0 + x) :: .ref (b0 + k) :: rest)) :=
  q_putF (C := RX6) (T := TX6) (NF := 28) (ty := tyX6 19) hexec hb hts hin tyX6 tyX6_ok nmX6 hown hK hP hS hkN (cell_6 hk) rfl 19 (by decide) hlink rfl hin2 hdecl (tyX6_ok 19 (by decide)) rfl rfl (by show 19 < 28; decide) (sR S k 19 (some x)) (by rw [cell_6 hk]; simp [gI_sR, gJ_sR, gR_sR]; rfl) cell_sR hdg kk
theorem pf_6_20 (hexec : p.tables.exec = Jvm.exec) (hb : c.code = cc) (hts : ∀ w ∈ Ts, w.before args s = true) (hin : ∀ w ∈ wsX60, w ∈ Ts) (hown : s.vm.findClass own = some m.cls) (hK : va_K D vwCl (tysC cy) s) (hP : HP D cy b0 N S H) (hS : va_S (AA b0) H0 H locs) {k : Nat} (hkN : k < N) (hk : kd k = 6) (hin2 : meth.name = "<init>") (hdecl : (TX6 20).1 = own) {x : Nat} (hlink : (Cond.fieldLink own index (TX6 20).1 (TX6 20).2.1 (TX6 20).2.2.1).before args s = true) (hdg : decode cc pc = .ok (.putfield index, 3)) (kk : ∀ (H1 : Heap) (locs1 : List Loc), H1.size = H.size → HP D cy b0 N (sR S k 20 (some x)) H1 → va_S (AA b0) H0 H1 locs1 → W p l e R s m args below meth c H1 locs1 cells slots Q (F0 m (pc + 3) ls rest)) : W p l e R s m args below meth c H locs cells slots Q (F0 m pc ls (.ref (b0 + x) :: .ref (b0 + k) :: rest)) :=
  q_putF (C := RX6) (T := TX6) (NF := 28) (ty := tyX6 20) hexec hb hts hin tyX6 tyX6_ok nmX6 hown hK hP hS hkN (cell_6 hk) rfl 20 (by decide) hlink rfl hin2 hdecl (tyX6_ok 20 (by decide)) rfl rfl (by show 20 < 28; decide) (sR S k 20 (some x)) (by rw [cell_6 hk]; simp [gI_sR, gJ_sR, gR_sR]; rfl) cell_sR hdg kk
theorem pf_6_21 (hexec : p.tables.exec = Jvm.exec) (hb : c.code = cc) (hts : ∀ w ∈ Ts, w.before args s = true) (hin : ∀ w ∈ wsX60, w ∈ Ts) (hown : s.vm.findClass own = some m.cls) (hK : va_K D vwCl (tysC cy) s) (hP : HP D cy b0 N S H) (hS : va_S (AA b0) H0 H locs) {k : Nat} (hkN : k < N) (hk : kd k = 6) (hin2 : meth.name = "<init>") (hdecl : (TX6 21).1 = own) {x : Nat} (hlink : (Cond.fieldLink own index (TX6 21).1 (TX6 21).2.1 (TX6 21).2.2.1).before args s = true) (hdg : decode cc pc = .ok (.putfield index, 3)) (kk : ∀ (H1 : Heap) (locs1 : List Loc), H1.size = H.size → HP D cy b0 N (sR S k 21 (some x)) H1 → va_S (AA b0) H0 H1 locs1 → W p l e R s m args below meth c H1 locs1 cells slots Q (F0 m (pc + 3) ls rest)) : W p l e R s m args below meth c H locs cells slots Q (F0 m pc ls (.ref (b0 + x) :: .ref (b0 + k) :: rest)) :=
  q_putF (C := RX6) (T := TX6) (NF := 28) (ty := tyX6 21) hexec hb hts hin tyX6 tyX6_ok nmX6 hown hK hP hS hkN (cell_6 hk) rfl 21 (by decide) hlink rfl hin2 hdecl (tyX6_ok 21 (by decide)) rfl rfl (by show 21 < 28; decide) (sR S k 21 (some x)) (by rw [cell_6 hk]; simp [gI_sR, gJ_sR, gR_sR]; rfl) cell_sR hdg kk
theorem pf_6_22 (hexec : p.tables.exec = Jvm.exec) (hb : c.code = cc) (hts : ∀ w ∈ Ts, w.before args s = true) (hin : ∀ w ∈ wsX60, w ∈ Ts) (hown : s.vm.findClass own = some m.cls) (hK : va_K D vwCl (tysC cy) s) (hP : HP D cy b0 N S H) (hS : va_S (AA b0) H0 H locs) {k : Nat} (hkN : k < N) (hk : kd k = 6) (hin2 : meth.name = "<init>") (hdecl : (TX6 22).1 = own) {x : Nat} (hlink : (Cond.fieldLink own index (TX6 22).1 (TX6 22).2.1 (TX6 22).2.2.1).before args s = true) (hdg : decode cc pc = .ok (.putfield index, 3)) (kk : ∀ (H1 : Heap) (locs1 : List Loc), H1.size = H.size → HP D cy b0 N (sR S k 22 (some x)) H1 → va_S (AA b0) H0 H1 locs1 → W p l e R s m args below meth c H1 locs1 cells slots Q (F0 m (pc + 3) ls rest)) : W p l e R s m args below meth c H locs cells slots Q (F0 m pc ls (.ref (b0 + x) :: .ref (b0 + k) :: rest)) :=
  q_putF (C := RX6) (T := TX6) (NF := 28) (ty := tyX6 22) hexec hb hts hin tyX6 tyX6_ok nmX6 hown hK hP hS hkN (cell_6 hk) rfl 22 (by decide) hlink rfl hin2 hdecl (tyX6_ok 22 (by decide)) rfl rfl (by show 22 < 28; decide) (sR S k 22 (some x)) (by rw [cell_6 hk]; simp [gI_sR, gJ_sR, gR_sR]; rfl) cell_sR hdg kk
theorem pf_6_23 (hexec : p.tables.exec = Jvm.exec) (hb : c.code = cc) (hts : ∀ w ∈ Ts, w.before args s = true) (hin : ∀ w ∈ wsX60, w ∈ Ts) (hown : s.vm.findClass own = some m.cls) (hK : va_K D vwCl (tysC cy) s) (hP : HP D cy b0 N S H) (hS : va_S (AA b0) H0 H locs) {k : Nat} (hkN : k < N) (hk : kd k = 6) (hin2 : meth.name = "<init>") (hdecl : (TX6 23).1 = own) {x : Nat} (hlink : (Cond.fieldLink own index (TX6 23).1 (TX6 23).2.1 (TX6 23).2.2.1).before args s = true) (hdg : decode cc pc = .ok (.putfield index, 3)) (kk : ∀ (H1 : Heap) (locs1 : List Loc), H1.size = H.size → HP D cy b0 N (sR S k 23 (some x)) H1 → va_S (AA b0) H0 H1 locs1 → W p l e R s m args below meth c H1 locs1 cells slots Q (F0 m (pc + 3) ls rest)) : W p l e R s m args below meth c H locs cells slots Q (F0 m pc ls (.ref (b0 + x) :: .ref (b0 + k) :: rest)) :=
  q_putF (C := RX6) (T := TX6) (NF := 28) (ty := tyX6 23) hexec hb hts hin tyX6 tyX6_ok nmX6 hown hK hP hS hkN (cell_6 hk) rfl 23 (by decide) hlink rfl hin2 hdecl (tyX6_ok 23 (by decide)) rfl rfl (by show 23 < 28; decide) (sR S k 23 (some x)) (by rw [cell_6 hk]; simp [gI_sR, gJ_sR, gR_sR]; rfl) cell_sR hdg kk
theorem pf_6_24 (hexec : p.tables.exec = Jvm.exec) (hb : c.code = cc) (hts : ∀ w ∈ Ts, w.before args s = true) (hin : ∀ w ∈ wsX60, w ∈ Ts) (hown : s.vm.findClass own = some m.cls) (hK : va_K D vwCl (tysC cy) s) (hP : HP D cy b0 N S H) (hS : va_S (AA b0) H0 H locs) {k : Nat} (hkN : k < N) (hk : kd k = 6) (hin2 : meth.name = "<init>") (hdecl : (TX6 24).1 = own) {x : Nat} (hlink : (Cond.fieldLink own index (TX6 24).1 (TX6 24).2.1 (TX6 24).2.2.1).before args s = true) (hdg : decode cc pc = .ok (.putfield index, 3)) (kk : ∀ (H1 : Heap) (locs1 : List Loc), H1.size = H.size → HP D cy b0 N (sR S k 24 (some x)) H1 → va_S (AA b0) H0 H1 locs1 → W p l e R s m args below meth c H1 locs1 cells slots Q (F0 m (pc + 3) ls rest)) : W p l e R s m args below meth c H locs cells slots Q (F0 m pc ls (.ref (b0 + x) :: .ref (b0 + k) :: rest)) :=
  q_putF (C := RX6) (T := TX6) (NF := 28) (ty := tyX6 24) hexec hb hts hin tyX6 tyX6_ok nmX6 hown hK hP hS hkN (cell_6 hk) rfl 24 (by decide) hlink rfl hin2 hdecl (tyX6_ok 24 (by decide)) rfl rfl (by show 24 < 28; decide) (sR S k 24 (some x)) (by rw [cell_6 hk]; simp [gI_sR, gJ_sR, gR_sR]; rfl) cell_sR hdg kk
theorem pf_6_25 (hexec : p.tables.exec = Jvm.exec) (hb : c.code = cc) (hts : ∀ w ∈ Ts, w.before args s = true) (hin : ∀ w ∈ wsX60, w ∈ Ts) (hown : s.vm.findClass own = some m.cls) (hK : va_K D vwCl (tysC cy) s) (hP : HP D cy b0 N S H) (hS : va_S (AA b0) H0 H locs) {k : Nat} (hkN : k < N) (hk : kd k = 6) (hin2 : meth.name = "<init>") (hdecl : (TX6 25).1 = own) {x : Nat} (hlink : (Cond.fieldLink own index (TX6 25).1 (TX6 25).2.1 (TX6 25).2.2.1).before args s = true) (hdg : decode cc pc = .ok (.putfield index, 3)) (kk : ∀ (H1 : Heap) (locs1 : List Loc), H1.size = H.size → HP D cy b0 N (sR S k 25 (some x)) H1 → va_S (AA b0) H0 H1 locs1 → W p l e R s m args below meth c H1 locs1 cells slots Q (F0 m (pc + 3) ls rest)) : W p l e R s m args below meth c H locs cells slots Q (F0 m pc ls (.ref (b0 + x) :: .ref (b0 + k) :: rest)) :=
  q_putF (C := RX6) (T := TX6) (NF := 28) (ty := tyX6 25) hexec hb hts hin tyX6 tyX6_ok nmX6 hown hK hP hS hkN (cell_6 hk) rfl 25 (by decide) hlink rfl hin2 hdecl (tyX6_ok 25 (by decide)) rfl rfl (by show 25 < 28; decide) (sR S k 25 (some x)) (by rw [cell_6 hk]; simp [gI_sR, gJ_sR, gR_sR]; rfl) cell_sR hdg kk
theorem pf_6_26 (hexec : p.tables.exec = Jvm.exec) (hb : c.code = cc) (hts : ∀ w ∈ Ts, w.before args s = true) (hin : ∀ w ∈ wsX60, w ∈ Ts) (hown : s.vm.findClass own = some m.cls) (hK : va_K D vwCl (tysC cy) s) (hP : HP D cy b0 N S H) (hS : va_S (AA b0) H0 H locs) {k : Nat} (hkN : k < N) (hk : kd k = 6) (hin2 : meth.name = "<init>") (hdecl : (TX6 26).1 = own) {x : Nat} (hlink : (Cond.fieldLink own index (TX6 26).1 (TX6 26).2.1 (TX6 26).2.2.1).before args s = true) (hdg : decode cc pc = .ok (.putfield index, 3)) (kk : ∀ (H1 : Heap) (locs1 : List Loc), H1.size = H.size → HP D cy b0 N (sR S k 26 (some x)) H1 → va_S (AA b0) H0 H1 locs1 → W p l e R s m args below meth c H1 locs1 cells slots Q (F0 m (pc + 3) ls rest)) : W p l e R s m args below meth c H locs cells slots Q (F0 m pc ls (.ref (b0 + x) :: .ref (b0 + k) :: rest)) :=
  q_putF (C := RX6) (T := TX6) (NF := 28) (ty := tyX6 26) hexec hb hts hin tyX6 tyX6_ok nmX6 hown hK hP hS hkN (cell_6 hk) rfl 26 (by decide) hlink rfl hin2 hdecl (tyX6_ok 26 (by decide)) rfl rfl (by show 26 < 28; decide) (sR S k 26 (some x)) (by rw [cell_6 hk]; simp [gI_sR, gJ_sR, gR_sR]; rfl) cell_sR hdg kk
theorem pf_6_27 (hexec : p.tables.exec = Jvm.exec) (hb : c.code = cc) (hts : ∀ w ∈ Ts, w.before args s = true) (hin : ∀ w ∈ wsX60, w ∈ Ts) (hown : s.vm.findClass own = some m.cls) (hK : va_K D vwCl (tysC cy) s) (hP : HP D cy b0 N S H) (hS : va_S (AA b0) H0 H locs) {k : Nat} (hkN : k < N) (hk : kd k = 6) (hin2 : meth.name = "<init>") (hdecl : (TX6 27).1 = own) {x : Nat} (hlink : (Cond.fieldLink own index (TX6 27).1 (TX6 27).2.1 (TX6 27).2.2.1).before args s = true) (hdg : decode cc pc = .ok (.putfield index, 3)) (kk : ∀ (H1 : Heap) (locs1 : List Loc), H1.size = H.size → HP D cy b0 N (sR S k 27 (some x)) H1 → va_S (AA b0) H0 H1 locs1 → W p l e R s m args below meth c H1 locs1 cells slots Q (F0 m (pc + 3) ls rest)) : W p l e R s m args below meth c H locs cells slots Q (F0 m pc ls (.ref (b0 + x) :: .ref (b0 + k) :: rest)) :=
  q_putF (C := RX6) (T := TX6) (NF := 28) (ty := tyX6 27) hexec hb hts hin tyX6 tyX6_ok nmX6 hown hK hP hS hkN (cell_6 hk) rfl 27 (by decide) hlink rfl hin2 hdecl (tyX6_ok 27 (by decide)) rfl rfl (by show 27 < 28; decide) (sR S k 27 (some x)) (by rw [cell_6 hk]; simp [gI_sR, gJ_sR, gR_sR]; rfl) cell_sR hdg kk
end QP
end
section
/-! what of the tables and the heap never changes and isn't among the good words: nest mates' members, the exceptions' texts, casts, Throwable's two statics -/
def NWL : List (String × Nat × MethodName × String) := [(RX5, 11, yX2_init, "Opticmesh"), (RX5, 27, yX0_init, "Opticmesh"), (RX1, 9, yX3_init, "Opticmesh"), (RX4, 40, yX3_init, "Opticmesh"), (RX4, 116, yX5_lowestIn, "Opticmesh")]
def SL : List (Nat × String) := [(50, "nodes are 2 to 8 and wavelengths 1 to 8"), (70, "a fibre joins two nodes and has a length of 1 to 1000"), (78, "there are 14 fibres"), (85, "no such node"), (96, "the fibre is cut"), (105, "the fibre is not cut"), (110, "no such wavelength"), (134, "there are no fibres"), (139, "a request has two nodes, a demand of 1 to 10 and a rule of 0 to 2"), (141, "there have been 60 requests"), (158, "a light joins two nodes by a rule of 0 to 2"), (164, "there is no such way or pair of ways"), (200, "no such place"), (210, "the light is gone or protected"), (225, "there is no such way"), (240, "no two lights can be merged"), (250, "no way can be moved"), (267, "no such fibre"), (269, "no such light"), (271, "the light has no such way"), (273, "no such request"), (275, "the request has been released"), (283, "there are 12 lights that are not gone")]
abbrev eA : String := "java/lang/IllegalArgumentException"
abbrev eS : String := "java/lang/IllegalStateException"
abbrev eX : String := "java/lang/IndexOutOfBoundsException"
abbrev eN : List String := ["java/lang/RuntimeException", "java/lang/Exception"]
def NCL : List (String × String) := [(eA, eS), (eA, eX), (eS, eA), (eS, eX), (eX, eA), (eX, eS)]
def CTL : List String := [eA, eS, eX]
def DCL : List MethodName := [⟨"java/lang/RuntimeException", "<init>", "(Ljava/lang/String;)V"⟩, ⟨"java/lang/Exception", "<init>", "(Ljava/lang/String;)V"⟩, ⟨"java/lang/Throwable", "<init>", "(Ljava/lang/String;)V"⟩]
def WK (D : va_G) (cy : Nat → ClassId) (b0 : Nat) (U : State) : Prop :=
  va_K D vwCl (tysC cy) U ∧ b0 ≤ U.heap.size ∧ vx_Zq Bundle.tN "UNASSIGNED_STACK" Bundle.steD (AA b0) U U.heap ∧ vx_Zq Bundle.tN "SUPPRESSED_SENTINEL" Bundle.listD (AA b0) U U.heap ∧ (∀ q ∈ NWL, va_Nw (.methodLinkNest q.1 q.2.1 q.2.2.1 q.2.2.2) U) ∧ (∀ q ∈ SL, ∃ sa, vk_R RX5 q.1 q.2 sa U) ∧ (∀ q ∈ NCL, va_Nc q.1 q.2 U) ∧ (∀ q ∈ CTL, va_Nw (.castable q q) U) ∧ (∀ q ∈ DCL, va_Nw (.declares q) U)
theorem WK.to {D : va_G} {cy : Nat → ClassId} {b0 : Nat} {s U : State} {H : Heap} {locs : List Loc} (h : WK D cy b0 s) (hS : va_S (AA b0) s.heap H locs) (hU : U.heap = H) (hW : s.WarmedH U.vm) : WK D cy b0 U := by
  obtain ⟨h1, h2, h3, h4, h5, h6, h7, h8, h9⟩ := h
  subst hU
  exact ⟨h1.moved hW.alike, Nat.le_trans h2 hS.1, vx_Zq.moved hW.alike (h3.kept hS.2.1), vx_Zq.moved hW.alike (h4.kept hS.2.1), fun q hq => va_Nw.warmM hW (h5 q hq), fun q hq => by obtain ⟨sa, ha⟩ := h6 q hq; exact ⟨sa, vk_R.warm hW ha⟩, fun q hq => va_Nc.moved hW.alike (h7 q hq), fun q hq => va_Nw.warmC hW (h8 q hq), fun q hq => va_Nw.warmD hW (h9 q hq)⟩
theorem WK.blind {D : va_G} {cy : Nat → ClassId} {b0 : Nat} {U : State} (h : WK D cy b0 U) (g : JFrame) (mk : MethodId) (a : Array Value) : WK D cy b0 (U.calling g mk a) := by
  obtain ⟨h1, h2, h3, h4, h5, h6, h7, h8, h9⟩ := h
  exact ⟨va_K.moved (u := U) (U := U.calling g mk a) (Vm.Alike.refl U.vm) h1, h2, vx_Zq.moved (u := U) (U := U.calling g mk a) (Vm.Alike.refl U.vm) h3, vx_Zq.moved (u := U) (U := U.calling g mk a) (Vm.Alike.refl U.vm) h4, fun q hq => va_Nw.same rfl (u := U) (U := U.calling g mk a) rfl (h5 q hq), fun q hq => by obtain ⟨sa, ha⟩ := h6 q hq; exact ⟨sa, vk_R.same (u := U) (U := U.calling g mk a) rfl ha⟩, fun q hq => va_Nc.moved (u := U) (U := U.calling g mk a) (Vm.Alike.refl U.vm) (h7 q hq), fun q hq => va_Nw.same rfl (u := U) (U := U.calling g mk a) rfl (h8 q hq), fun q hq => va_Nw.same rfl (u := U) (U := U.calling g mk a) rfl (h9 q hq)⟩
/-- a method's start: the constants, the cells, the fixed references -/
def Wd (D : va_G) (cy : Nat → ClassId) (b0 : Nat) (S : St) (U : State) : Prop := WK D cy b0 U ∧ HP D cy b0 NALL S U.heap ∧ Fx S
/-- its end: the cells, the fixed references -/
def Wb (D : va_G) (cy : Nat → ClassId) (b0 : Nat) (S : St) (U : State) : Prop := HP D cy b0 NALL S U.heap ∧ Fx S
theorem Wd.bl {D : va_G} {cy : Nat → ClassId} {b0 : Nat} {S : St} (av : List Value) : FrameBlind (va_Pc av (Wd D cy b0 S)) := fun a U g mk q => ⟨q.1, q.2.1.blind g mk a, q.2.2⟩
theorem Wd.at {D : va_G} {cy : Nat → ClassId} {b0 : Nat} {S : St} {s : State} {H : Heap} {locs : List Loc} (h : WK D cy b0 s) (hP : HP D cy b0 NALL S H) (hF : Fx S) (hS : va_S (AA b0) s.heap H locs) (av : List Value) : ∀ U : State, U.heap = H → s.WarmedH U.vm → va_Pc av (Wd D cy b0 S) av.toArray U := fun U hU hW => ⟨rfl, h.to hS hU hW, by rw [hU]; exact hP, hF⟩
theorem q_pS {D : va_G} {cy : Nat → ClassId} {b0 : Nat} {S : St} {s : State} {H : Heap} {locs : List Loc} (h : WK D cy b0 s) (hP : HP D cy b0 NALL S H) (hF : Fx S) (hS : va_S (AA b0) s.heap H locs) (av : List Value) : PreS s H (va_Pc av (Wd D cy b0 S)) av := ⟨Wd.bl av, Wd.at h hP hF hS av⟩
theorem q_pV {D : va_G} {cy : Nat → ClassId} {b0 : Nat} {S : St} {s : State} {H : Heap} {locs : List Loc} (h : WK D cy b0 s) (hP : HP D cy b0 NALL S H) (hF : Fx S) (hS : va_S (AA b0) s.heap H locs) {k ci : Nat} {r : vw_C} {fs : List Value} (hk : k < NALL) (he : cellC cy b0 S k = .inr (ci, fs)) (hc : vwCl[ci]? = some r) (As : List Value) : PreV s H r.1 (b0 + k) (va_Pc (.ref (b0 + k) :: As) (Wd D cy b0 S)) As := ⟨Wd.bl _, va_recv (ws := [(b0 + k, .inr (ci, fs))]) (q0 := 0) h.1 (hP.one hk he) hc rfl, Wd.at h hP hF hS _⟩
/-- what a method's end says -/
def QC (P : Option Value → St → Prop) (B : St → State → Prop) (b0 : Nat) : Array Value → State → Outcome → State → Prop := fun _ st oc t => (∃ (v : Option Value) (S : St), oc = .returned v ∧ P v S ∧ B S t) ∧ va_F (AA b0) st t
def Pi (P : Int32 → St → Prop) : Option Value → St → Prop := fun v S => ∃ r : Int32, v = some (.int r) ∧ P r S
def Pz (P : Bool → St → Prop) : Option Value → St → Prop := fun v S => ∃ r : Bool, v = some (.int (b2i r)) ∧ P r S
def Pf (P : UInt32 → St → Prop) : Option Value → St → Prop := fun v S => ∃ r : UInt32, v = some (.float r) ∧ P r S
def Pv (P : St → Prop) : Option Value → St → Prop := fun v S => v = none ∧ P S
/-- an answer that may be null -/
def Pq (b0 : Nat) (P : Option Nat → St → Prop) : Option Value → St → Prop := fun v S => ∃ r : Option Nat, v = some (rf b0 r) ∧ P r S
/-- an answer that is a cell of kind z -/
def Pr (b0 z : Nat) (P : Nat → St → Prop) : Option Value → St → Prop := fun v S => ∃ r : Nat, v = some (.ref (b0 + r)) ∧ kd r = z ∧ P r S
/-- .. null or a cell of kind z -/
def Pn (b0 z : Nat) (P : Option Nat → St → Prop) : Option Value → St → Prop := fun v S => ∃ r : Option Nat, v = some (rf b0 r) ∧ (∀ q, r = some q → kd q = z) ∧ P r S
def XX (EX : String → St → Prop) (B : St → State → Prop) (b0 : Nat) : String → State → State → Prop := vx_X (fun u : String × St => EX u.1 u.2) (fun E u t => E = u.1 ∧ B u.2 t) (AA b0)
section QC1
variable {p : Program} {l : Launch} {e : Env} {R : Room} {s : State} {m : MethodId} {args : Array Value} {below : List Frame} {meth : Method} {c : Code} {H : Heap} {locs : List Loc} {cells slots : Nat} {Q : State → Prop}
variable {pc : Nat} {ls : Array Slot} {rest st0 : List Value} {a : Array Value} {H0 : Heap} {mc ms : Nat} {b0 : Nat} {P : Option Value → St → Prop} {B : St → State → Prop} {EX : String → St → Prop}
theorem q_call (hr : va_Run p l e R s m args below meth c H locs cells slots mc ms (F0 m pc ls st0) rest (QC P B b0 a) (AA b0)) (hS : va_S (AA b0) H0 H locs)
    (kk : ∀ (v : Option Value) (S : St) (t : State) (H1 : Heap) (locs1 : List Loc), t.heap = H1 → P v S → B S t → H.size ≤ H1.size → (∀ q : Nat, q < H.size → ¬ AA b0 q → H1[q]? = H[q]?) → va_S (AA b0) H0 H1 locs1 → W p l e R s m args below meth c H1 locs1 (cells + mc) (slots + ms) Q (F0 m (pc + 3) ls (v.toList ++ rest))) : W p l e R s m args below meth c H locs cells slots Q (F0 m pc ls st0) := by
  intro T hT X
  obtain ⟨v, st₀, t, T', L, h0, X', hL, e1, e2, ⟨⟨v2, S, hv, hp, hb⟩, hz, hk⟩, st⟩ := hr T hT X
  cases hv
  rw [h0] at hz hk
  obtain ⟨t2, a1, b1⟩ := kk v S t T'.heap (locs ++ L) e1.symm hp hb (by rw [e1]; exact hz) (fun q h1 h2 => by rw [e1]; exact hk q h1 h2)
    ⟨Nat.le_trans hS.1 (by rw [e1]; exact hz), fun q h1 h2 => by rw [e1, hk q (Nat.lt_of_lt_of_le h1 hS.1) h2]; exact hS.2.1 q h1 h2, fun q hq => by
      rcases List.mem_append.mp hq with h | h
      · exact hS.2.2 q h
      · exact hL q h⟩ T' rfl X'
  exact ⟨t2, st t2 a1, b1⟩
theorem q_callX (hr : vx_Run p l e R s m args below meth c H locs cells slots mc ms (F0 m pc ls st0) rest (QC P B b0 a) (XX EX B b0) (AA b0)) (hS : va_S (AA b0) H0 H locs)
    (kx : ∀ (E : String) (ce : Cell) (q9 : Addr) (S : St) (t : State) (H1 : Heap) (locs1 : List Loc), t.heap = H1 → EX E S → B S t → H.size ≤ H1.size → va_S (AA b0) H0 H1 locs1 → H1[q9]? = some ce → ce.vm = .none → s.vm.findClass E = some ce.cls → vx_W p l e R s m args below meth c H1 locs1 (cells + mc) (slots + ms) Q (F0 m pc ls rest) q9)
    (kk : ∀ (v : Option Value) (S : St) (t : State) (H1 : Heap) (locs1 : List Loc), t.heap = H1 → P v S → B S t → H.size ≤ H1.size → (∀ q : Nat, q < H.size → ¬ AA b0 q → H1[q]? = H[q]?) → va_S (AA b0) H0 H1 locs1 → W p l e R s m args below meth c H1 locs1 (cells + mc) (slots + ms) Q (F0 m (pc + 3) ls (v.toList ++ rest))) : W p l e R s m args below meth c H locs cells slots Q (F0 m pc ls st0) := by
  intro T hT X
  rcases hr T hT X with ⟨v, st₀, t, T', L, h0, X', hL, e1, e2, ⟨⟨v2, S, hv, hp, hb⟩, hF⟩, st⟩ | ⟨q, st₀, t, T', L, E, ce, h0, X', hL, e1, e2, ⟨u, hp, ⟨hE, hb⟩, hF⟩, hce, hcv, hcl, st⟩
  · cases hv
    obtain ⟨k1, k2, k3⟩ := vx_keep h0 e1 hS (fun _ _ h => h) (fun _ h => h) hL hF
    obtain ⟨t2, a1, b1⟩ := kk v S t T'.heap (locs ++ L) e1.symm hp hb k1 k2 k3 T' rfl X'
    exact ⟨t2, st t2 a1, b1⟩
  · obtain ⟨k1, k2, k3⟩ := vx_keep h0 e1 hS (fun _ _ h => h) (fun _ h => h) hL hF
    obtain ⟨t2, a1, b1⟩ := kx E ce q u.2 t T'.heap (locs ++ L) e1.symm (by rw [hE]; exact hp) hb k1 k3 (by rw [e1]; exact hce) hcv hcl T' rfl X'
    exact ⟨t2, st.trans a1, b1⟩
end QC1
section QC2
variable {p : Program} {l : Launch} {e : Env} {R : Room} {s : State} {m : MethodId} {args : Array Value} {below : List Frame} {meth : Method} {c : Code} {H : Heap} {locs : List Loc} {cells slots : Nat} {Q : State → Prop}
variable {cc : ByteArray} {pc : Nat} {ls : Array Slot} {rest st0 : List Value} {a : Array Value} {mc ms : Nat} {D : va_G} {cy : Nat → ClassId} {b0 : Nat} {S : St} {P : Option Value → St → Prop} {EX : String → St → Prop}
/-- a method's end -/
theorem q_iret (hexec : p.tables.exec = Jvm.exec) (hb : c.code = cc) (hr : meth.sig.returnType = some .int) (hP : HP D cy b0 NALL S H) (hF : Fx S) (hS : va_S (AA b0) s.heap H locs) {v : Int32} {P : Int32 → St → Prop} (hw : P v S) (hdg : decode cc pc = .ok (.ireturn, 1)) (hlocks : meth.locks = false) : W p l e R s m args below meth c H locs cells slots (MQ below (QC (Pi P) (Wb D cy b0) b0) args s cells slots (AA b0)) (F0 m pc ls [.int v]) :=
  W.iret hexec hb hr (fun t ht _ => ⟨⟨_, S, rfl, ⟨v, rfl, hw⟩, by rw [ht]; exact hP, hF⟩, hS.F ht⟩) hS.2.2 hdg hlocks
theorem q_zret (hexec : p.tables.exec = Jvm.exec) (hb : c.code = cc) (hr : meth.sig.returnType = some .boolean) (hP : HP D cy b0 NALL S H) (hF : Fx S) (hS : va_S (AA b0) s.heap H locs) {v : Bool} {P : Bool → St → Prop} (hw : P v S) (hdg : decode cc pc = .ok (.ireturn, 1)) (hlocks : meth.locks = false) : W p l e R s m args below meth c H locs cells slots (MQ below (QC (Pz P) (Wb D cy b0) b0) args s cells slots (AA b0)) (F0 m pc ls [.int (b2i v)]) :=
  W.zret hexec hb hr (b2i_nar v) (fun t ht _ => ⟨⟨_, S, rfl, ⟨v, rfl, hw⟩, by rw [ht]; exact hP, hF⟩, hS.F ht⟩) hS.2.2 hdg hlocks
theorem q_vret (hexec : p.tables.exec = Jvm.exec) (hb : c.code = cc) (hr : meth.sig.returnType = none) (hP : HP D cy b0 NALL S H) (hF : Fx S) (hS : va_S (AA b0) s.heap H locs) {P : St → Prop} (hw : P S) (hdg : decode cc pc = .ok (.return_, 1)) (hlocks : meth.locks = false) : W p l e R s m args below meth c H locs cells slots (MQ below (QC (Pv P) (Wb D cy b0) b0) args s cells slots (AA b0)) (F0 m pc ls []) :=
  W.vret hexec hb hr (fun t ht _ => ⟨⟨_, S, rfl, ⟨rfl, hw⟩, by rw [ht]; exact hP, hF⟩, hS.F ht⟩) hS.2.2 hdg hlocks
theorem q_fret (hexec : p.tables.exec = Jvm.exec) (hb : c.code = cc) (hr : meth.sig.returnType = some .float) (hP : HP D cy b0 NALL S H) (hF : Fx S) (hS : va_S (AA b0) s.heap H locs) {v : UInt32} {P : UInt32 → St → Prop} (hw : P v S) (hdg : decode cc pc = .ok (.freturn, 1)) (hlocks : meth.locks = false) : W p l e R s m args below meth c H locs cells slots (MQ below (QC (Pf P) (Wb D cy b0) b0) args s cells slots (AA b0)) (F0 m pc ls [.float v]) :=
  W.fret hexec hb hr (fun t ht _ => ⟨⟨_, S, rfl, ⟨v, rfl, hw⟩, by rw [ht]; exact hP, hF⟩, hS.F ht⟩) hS.2.2 hdg hlocks
theorem q_aretR (hexec : p.tables.exec = Jvm.exec) (hb : c.code = cc) {cn : String} (hr : meth.sig.returnType = some (.object cn)) (hP : HP D cy b0 NALL S H) (hF : Fx S) (hS : va_S (AA b0) s.heap H locs) {v z : Nat} (hz : kd v = z) {P : Nat → St → Prop} (hw : P v S) (hdg : decode cc pc = .ok (.areturn, 1)) (hlocks : meth.locks = false) : W p l e R s m args below meth c H locs cells slots (MQ below (QC (Pr b0 z P) (Wb D cy b0) b0) args s cells slots (AA b0)) (F0 m pc ls [.ref (b0 + v)]) :=
  W.aret hexec hb hr (Or.inl ⟨_, rfl⟩) (Or.inr ⟨_, rfl⟩) (fun t ht _ => ⟨⟨_, S, rfl, ⟨v, rfl, hz, hw⟩, by rw [ht]; exact hP, hF⟩, hS.F ht⟩) hS.2.2 hdg hlocks
theorem q_aretS (hexec : p.tables.exec = Jvm.exec) (hb : c.code = cc) {cn : String} (hr : meth.sig.returnType = some (.object cn)) (hP : HP D cy b0 NALL S H) (hF : Fx S) (hS : va_S (AA b0) s.heap H locs) {v z : Nat} (hz : kd v = z) {P : Option Nat → St → Prop} (hw : P (some v) S) (hdg : decode cc pc = .ok (.areturn, 1)) (hlocks : meth.locks = false) : W p l e R s m args below meth c H locs cells slots (MQ below (QC (Pn b0 z P) (Wb D cy b0) b0) args s cells slots (AA b0)) (F0 m pc ls [.ref (b0 + v)]) :=
  W.aret hexec hb hr (Or.inl ⟨_, rfl⟩) (Or.inr ⟨_, rfl⟩) (fun t ht _ => ⟨⟨_, S, rfl, ⟨some v, rfl, fun q h => by cases h; exact hz, hw⟩, by rw [ht]; exact hP, hF⟩, hS.F ht⟩) hS.2.2 hdg hlocks
theorem q_aretN (hexec : p.tables.exec = Jvm.exec) (hb : c.code = cc) {cn : String} (hr : meth.sig.returnType = some (.object cn)) (hP : HP D cy b0 NALL S H) (hF : Fx S) (hS : va_S (AA b0) s.heap H locs) {z : Nat} {P : Option Nat → St → Prop} (hw : P none S) (hdg : decode cc pc = .ok (.areturn, 1)) (hlocks : meth.locks = false) : W p l e R s m args below meth c H locs cells slots (MQ below (QC (Pn b0 z P) (Wb D cy b0) b0) args s cells slots (AA b0)) (F0 m pc ls [.null]) :=
  W.aret hexec hb hr (Or.inl ⟨_, rfl⟩) (Or.inl rfl) (fun t ht _ => ⟨⟨_, S, rfl, ⟨none, rfl, fun q h => (by cases h), hw⟩, by rw [ht]; exact hP, hF⟩, hS.F ht⟩) hS.2.2 hdg hlocks
/-- an exception that a callee threw goes on to the caller -/
theorem q_pass {Qc : Array Value → State → Outcome → State → Prop} {E : String} {ce : Cell} {q9 : Addr} (ht : ∀ x ∈ c.exceptionTable.toList, False) (hlocks : meth.locks = false) (hP : HP D cy b0 NALL S H) (hF : Fx S) (hS : va_S (AA b0) s.heap H locs) (hw : EX E S) (hcell : H[q9]? = some ce) (hv : ce.vm = .none) (hcl : s.vm.findClass E = some ce.cls) (hc : cells ≤ mc) (hs : slots ≤ ms) :
    vx_W p l e R s m args below meth c H locs cells slots (vx_MQ below Qc (XX EX (Wb D cy b0) b0) args s mc ms (AA b0)) (F0 m pc ls rest) q9 :=
  vx_out (fun x hx => (ht x hx).elim) hlocks hcell hv hcl (fun t hT _ => ⟨(E, S), hw, ⟨rfl, by rw [hT]; exact hP, hF⟩, hS.F hT⟩) hS.2.2 hc hs
/-- 'throw new E("text")' -/
theorem q_throw {Qc : Array Value → State → Outcome → State → Prop} (hexec : p.tables.exec = Jvm.exec) (hb : c.code = cc) (hl : l.stackTraces = false) {cls text : String} {ik is ic : Nat} {Ts : List Cond} (hts : ∀ w ∈ Ts, w.before args s = true)
    (hown : s.vm.findClass RX5 = some m.cls) (hcls : Bundle.fit cls = true) (hk : (Cond.classLink RX5 ik cls).before args s = true) (hini : (Cond.initialized cls).before args s = true) (hsl : (is, text) ∈ SL)
    (h1 : ∀ w ∈ (vx_atS RX5 ic cls eN).filter goodWord, w ∈ Ts) (h2 : ∀ w ∈ (vx_atS RX5 ic cls eN).filter (fun w => !goodWord w), w ∈ Cond.castable cls cls :: DCL.map Cond.declares) (hct : cls ∈ CTL)
    (hgood : ∀ w ∈ Cond.classLink RX5 ik cls :: Cond.initialized cls :: vx_atS RX5 ic cls eN, vx_ot w = true) (hW : WK D cy b0 s) (hP : HP D cy b0 NALL S H) (hF : Fx S) (hS : va_S (AA b0) s.heap H locs) (hsize : ls.size = c.maxLocals)
    (d0 : decode cc pc = .ok (.new ik, 3)) (d3 : decode cc (pc + 3) = .ok (.dup, 1)) (d4 : decode cc (pc + 4) = .ok (.ldc is, 2)) (d6 : decode cc (pc + 6) = .ok (.invokespecial ic, 3)) (d9 : decode cc (pc + 9) = .ok (.athrow, 1))
    (ht : ∀ x ∈ c.exceptionTable.toList, False) (hRframes : 5 < R.frames) (hRlocals : (rest.map fun v => v.category).sum + 82 ≤ R.locals) (hRcells : cells + 1 ≤ R.cells) (hRslots : slots + 6 ≤ R.slots) (hlocks : meth.locks = false) (hw : EX cls S) (hc : cells + 1 ≤ mc) (hs : slots + 6 ≤ ms) :
    W p l e R s m args below meth c H locs cells slots (vx_MQ below Qc (XX EX (Wb D cy b0) b0) args s mc ms (AA b0)) (F0 m pc ls rest) := by
  obtain ⟨hK, hsz, hU, hN, -, hSt, -, hCt, hDt⟩ := id hW
  obtain ⟨sa, hstr⟩ := hSt _ hsl
  refine vx_throwS (A := AA b0) (names := eN) hexec hb hl hown hcls (by decide +kernel) hk hini hstr (vx_hat (fun w hw => hts w (h1 w hw)) h2 (vx_c (va_Nw.use rfl (hCt cls hct)) (fun w hw => by obtain ⟨y, hy, rfl⟩ := List.mem_map.mp hw; exact va_Nw.use rfl (hDt y hy)))) hgood hU hN hS hsize d0 d3 d4 d6 d9 (fun x hx => (ht x hx).elim) hRframes hRlocals hRcells hRslots hlocks (fun t _ hz ho => ?_) hS.2.2 hc hs
  exact ⟨(cls, S), hw, ⟨rfl, hP.kept ho, hF⟩, ⟨Nat.le_trans hS.1 hz, fun q h1 h2 => by rw [ho q (Nat.lt_of_lt_of_le h1 hS.1)]; exact hS.2.1 q h1 h2⟩⟩
theorem q_throwW {Qc : Array Value → State → Outcome → State → Prop} (hexec : p.tables.exec = Jvm.exec) (hb : c.code = cc) (hl : l.stackTraces = false) {cls text : String} {ik is ic : Nat} {Ts : List Cond} (hts : ∀ w ∈ Ts, w.before args s = true)
    (hown : s.vm.findClass RX5 = some m.cls) (hcls : Bundle.fit cls = true) (hk : (Cond.classLink RX5 ik cls).before args s = true) (hini : (Cond.initialized cls).before args s = true) (hsl : (is, text) ∈ SL)
    (h1 : ∀ w ∈ (vx_atS RX5 ic cls eN).filter goodWord, w ∈ Ts) (h2 : ∀ w ∈ (vx_atS RX5 ic cls eN).filter (fun w => !goodWord w), w ∈ Cond.castable cls cls :: DCL.map Cond.declares) (hct : cls ∈ CTL)
    (hgood : ∀ w ∈ Cond.classLink RX5 ik cls :: Cond.initialized cls :: vx_atS RX5 ic cls eN, vx_ot w = true) (hW : WK D cy b0 s) (hP : HP D cy b0 NALL S H) (hF : Fx S) (hS : va_S (AA b0) s.heap H locs) (hsize : ls.size = c.maxLocals)
    (d0 : decode cc pc = .ok (.new ik, 3)) (d3 : decode cc (pc + 3) = .ok (.dup, 1)) (d4 : decode cc (pc + 4) = .ok (.ldc_w is, 3)) (d7 : decode cc (pc + 7) = .ok (.invokespecial ic, 3)) (d10 : decode cc (pc + 10) = .ok (.athrow, 1))
    (ht : ∀ x ∈ c.exceptionTable.toList, False) (hRframes : 5 < R.frames) (hRlocals : (rest.map fun v => v.category).sum + 82 ≤ R.locals) (hRcells : cells + 1 ≤ R.cells) (hRslots : slots + 6 ≤ R.slots) (hlocks : meth.locks = false) (hw : EX cls S) (hc : cells + 1 ≤ mc) (hs : slots + 6 ≤ ms) :
    W p l e R s m args below meth c H locs cells slots (vx_MQ below Qc (XX EX (Wb D cy b0) b0) args s mc ms (AA b0)) (F0 m pc ls rest) := by
  obtain ⟨hK, hsz, hU, hN, -, hSt, -, hCt, hDt⟩ := id hW
  obtain ⟨sa, hstr⟩ := hSt _ hsl
  refine vx_throwSW (A := AA b0) (names := eN) hexec hb hl hown hcls (by decide +kernel) hk hini hstr (vx_hat (fun w hw => hts w (h1 w hw)) h2 (vx_c (va_Nw.use rfl (hCt cls hct)) (fun w hw => by obtain ⟨y, hy, rfl⟩ := List.mem_map.mp hw; exact va_Nw.use rfl (hDt y hy)))) hgood hU hN hS hsize d0 d3 d4 d7 d10 (fun x hx => (ht x hx).elim) hRframes hRlocals hRcells hRslots hlocks (fun t _ hz ho => ?_) hS.2.2 hc hs
  exact ⟨(cls, S), hw, ⟨rfl, hP.kept ho, hF⟩, ⟨Nat.le_trans hS.1 hz, fun q h1 h2 => by rw [ho q (Nat.lt_of_lt_of_le h1 hS.1)]; exact hS.2.1 q h1 h2⟩⟩
end QC2
theorem thA2 : ∀ w ∈ (vx_atS RX5 52 eA eN).filter (fun w => !goodWord w), w ∈ Cond.castable eA eA :: DCL.map Cond.declares := by decide +kernel
theorem thS2 : ∀ w ∈ (vx_atS RX5 80 eS eN).filter (fun w => !goodWord w), w ∈ Cond.castable eS eS :: DCL.map Cond.declares := by decide +kernel
theorem thX2 : ∀ w ∈ (vx_atS RX5 202 eX eN).filter (fun w => !goodWord w), w ∈ Cond.castable eX eX :: DCL.map Cond.declares := by decide +kernel
theorem thA3' : ∀ w ∈ vx_atS RX5 52 eA eN, vx_ot w = true := by decide +kernel
theorem thA3 {ik : Nat} : ∀ w ∈ Cond.classLink RX5 ik eA :: Cond.initialized eA :: vx_atS RX5 52 eA eN, vx_ot w = true := by
  intro w hw
  rcases List.mem_cons.mp hw with rfl | hw
  · rfl
  · rcases List.mem_cons.mp hw with rfl | hw
    · rfl
    · exact thA3' w hw
theorem thS3' : ∀ w ∈ vx_atS RX5 80 eS eN, vx_ot w = true := by decide +kernel
theorem thS3 {ik : Nat} : ∀ w ∈ Cond.classLink RX5 ik eS :: Cond.initialized eS :: vx_atS RX5 80 eS eN, vx_ot w = true := by
  intro w hw
  rcases List.mem_cons.mp hw with rfl | hw
  · rfl
  · rcases List.mem_cons.mp hw with rfl | hw
    · rfl
    · exact thS3' w hw
theorem thX3' : ∀ w ∈ vx_atS RX5 202 eX eN, vx_ot w = true := by decide +kernel
theorem thX3 {ik : Nat} : ∀ w ∈ Cond.classLink RX5 ik eX :: Cond.initialized eX :: vx_atS RX5 202 eX eN, vx_ot w = true := by
  intro w hw
  rcases List.mem_cons.mp hw with rfl | hw
  · rfl
  · rcases List.mem_cons.mp hw with rfl | hw
    · rfl
    · exact thX3' w hw
/-! the fixed places: kinds, lengths, references -/
theorem kk_0 : kd 0 = 5 := by decide +kernel
theorem kk_1 : kd 1 = 2 := by decide +kernel
theorem kk_2 : kd 2 = 7 := by decide +kernel
theorem ll_2 : ln 2 = 14 := by decide +kernel
theorem kk_3 : kd 3 = 7 := by decide +kernel
theorem ll_3 : ln 3 = 14 := by decide +kernel
theorem kk_4 : kd 4 = 7 := by decide +kernel
theorem ll_4 : ln 4 = 14 := by decide +kernel
theorem kk_5 : kd 5 = 4 := by decide +kernel
theorem kk_6 : kd 6 = 7 := by decide +kernel
theorem ll_6 : ln 6 = 14 := by decide +kernel
theorem kk_7 : kd 7 = 7 := by decide +kernel
theorem ll_7 : ln 7 = 7 := by decide +kernel
theorem kk_8 : kd 8 = 7 := by decide +kernel
theorem ll_8 : ln 8 = 7 := by decide +kernel
theorem kk_9 : kd 9 = 8 := by decide +kernel
theorem ll_9 : ln 9 = 7 := by decide +kernel
theorem kk_10 : kd 10 = 11 := by decide +kernel
theorem ll_10 : ln 10 = 7 := by decide +kernel
theorem kk_18 : kd 18 = 10 := by decide +kernel
theorem ll_18 : ln 18 = 162 := by decide +kernel
theorem kk_181 : kd 181 = 0 := by decide +kernel
theorem kk_182 : kd 182 = 7 := by decide +kernel
theorem ll_182 : ln 182 = 12 := by decide +kernel
theorem kk_183 : kd 183 = 7 := by decide +kernel
theorem ll_183 : ln 183 = 12 := by decide +kernel
theorem kk_184 : kd 184 = 9 := by decide +kernel
theorem ll_184 : ln 184 = 60 := by decide +kernel
theorem kk_365 : kd 365 = 9 := by decide +kernel
theorem ll_365 : ln 365 = 60 := by decide +kernel
theorem kk_366 : kd 366 = 7 := by decide +kernel
theorem ll_366 : ln 366 = 60 := by decide +kernel
theorem kk_367 : kd 367 = 6 := by decide +kernel
theorem kk_368 : kd 368 = 8 := by decide +kernel
theorem ll_368 : ln 368 = 8 := by decide +kernel
theorem kk_369 : kd 369 = 7 := by decide +kernel
theorem ll_369 : ln 369 = 14 := by decide +kernel
theorem kk_370 : kd 370 = 7 := by decide +kernel
theorem ll_370 : ln 370 = 14 := by decide +kernel
theorem kk_371 : kd 371 = 7 := by decide +kernel
theorem ll_371 : ln 371 = 14 := by decide +kernel
theorem kk_372 : kd 372 = 8 := by decide +kernel
theorem ll_372 : ln 372 = 14 := by decide +kernel
theorem kk_373 : kd 373 = 7 := by decide +kernel
theorem ll_373 : ln 373 = 112 := by decide +kernel
theorem kk_374 : kd 374 = 7 := by decide +kernel
theorem ll_374 : ln 374 = 60 := by decide +kernel
theorem kk_375 : kd 375 = 7 := by decide +kernel
theorem ll_375 : ln 375 = 60 := by decide +kernel
theorem kk_376 : kd 376 = 7 := by decide +kernel
theorem ll_376 : ln 376 = 60 := by decide +kernel
theorem kk_377 : kd 377 = 7 := by decide +kernel
theorem ll_377 : ln 377 = 60 := by decide +kernel
theorem kk_378 : kd 378 = 7 := by decide +kernel
theorem ll_378 : ln 378 = 60 := by decide +kernel
theorem kk_379 : kd 379 = 7 := by decide +kernel
theorem ll_379 : ln 379 = 1200 := by decide +kernel
theorem kk_380 : kd 380 = 7 := by decide +kernel
theorem ll_380 : ln 380 = 26 := by decide +kernel
theorem kk_381 : kd 381 = 7 := by decide +kernel
theorem ll_381 : ln 381 = 26 := by decide +kernel
theorem kk_382 : kd 382 = 7 := by decide +kernel
theorem ll_382 : ln 382 = 10 := by decide +kernel
theorem kk_383 : kd 383 = 7 := by decide +kernel
theorem ll_383 : ln 383 = 10 := by decide +kernel
theorem kk_384 : kd 384 = 7 := by decide +kernel
theorem ll_384 : ln 384 = 10 := by decide +kernel
theorem kk_385 : kd 385 = 7 := by decide +kernel
theorem ll_385 : ln 385 = 10 := by decide +kernel
theorem kk_386 : kd 386 = 7 := by decide +kernel
theorem ll_386 : ln 386 = 56 := by decide +kernel
theorem kk_387 : kd 387 = 7 := by decide +kernel
theorem ll_387 : ln 387 = 12 := by decide +kernel
theorem kk_388 : kd 388 = 7 := by decide +kernel
theorem ll_388 : ln 388 = 12 := by decide +kernel
theorem kk_389 : kd 389 = 7 := by decide +kernel
theorem ll_389 : ln 389 = 4096 := by decide +kernel
theorem kk_390 : kd 390 = 12 := by decide +kernel
theorem ll_390 : ln 390 = 1 := by decide +kernel
theorem kk_391 : kd 391 = 13 := by decide +kernel
theorem ll_391 : ln 391 = 1 := by decide +kernel
theorem ff_0_0 : fx 0 0 = some 1 := by decide +kernel
theorem ff_0_1 : fx 0 1 = some 5 := by decide +kernel
theorem ff_0_2 : fx 0 2 = some 181 := by decide +kernel
theorem ff_0_3 : fx 0 3 = some 184 := by decide +kernel
theorem ff_0_5 : fx 0 5 = some 365 := by decide +kernel
theorem ff_0_6 : fx 0 6 = some 366 := by decide +kernel
theorem ff_1_5 : fx 1 5 = some 2 := by decide +kernel
theorem ff_1_6 : fx 1 6 = some 3 := by decide +kernel
theorem ff_1_7 : fx 1 7 = some 4 := by decide +kernel
theorem ff_5_2 : fx 5 2 = some 6 := by decide +kernel
theorem ff_5_3 : fx 5 3 = some 1 := by decide +kernel
theorem ff_5_7 : fx 5 7 = some 7 := by decide +kernel
theorem ff_5_8 : fx 5 8 = some 8 := by decide +kernel
theorem ff_5_9 : fx 5 9 = some 9 := by decide +kernel
theorem ff_5_10 : fx 5 10 = some 10 := by decide +kernel
theorem ff_5_11 : fx 5 11 = some 18 := by decide +kernel
theorem ff_181_0 : fx 181 0 = some 182 := by decide +kernel
theorem ff_181_1 : fx 181 1 = some 183 := by decide +kernel
theorem ff_367_4 : fx 367 4 = some 368 := by decide +kernel
theorem ff_367_5 : fx 367 5 = some 369 := by decide +kernel
theorem ff_367_6 : fx 367 6 = some 370 := by decide +kernel
theorem ff_367_7 : fx 367 7 = some 371 := by decide +kernel
theorem ff_367_8 : fx 367 8 = some 372 := by decide +kernel
theorem ff_367_9 : fx 367 9 = some 373 := by decide +kernel
theorem ff_367_11 : fx 367 11 = some 374 := by decide +kernel
theorem ff_367_12 : fx 367 12 = some 375 := by decide +kernel
theorem ff_367_14 : fx 367 14 = some 376 := by decide +kernel
theorem ff_367_15 : fx 367 15 = some 377 := by decide +kernel
theorem ff_367_16 : fx 367 16 = some 378 := by decide +kernel
theorem ff_367_17 : fx 367 17 = some 379 := by decide +kernel
theorem ff_367_18 : fx 367 18 = some 380 := by decide +kernel
theorem ff_367_19 : fx 367 19 = some 381 := by decide +kernel
theorem ff_367_20 : fx 367 20 = some 382 := by decide +kernel
theorem ff_367_21 : fx 367 21 = some 383 := by decide +kernel
theorem ff_367_22 : fx 367 22 = some 384 := by decide +kernel
theorem ff_367_23 : fx 367 23 = some 385 := by decide +kernel
theorem ff_367_24 : fx 367 24 = some 386 := by decide +kernel
theorem ff_367_25 : fx 367 25 = some 387 := by decide +kernel
theorem ff_367_26 : fx 367 26 = some 388 := by decide +kernel
theorem ff_367_27 : fx 367 27 = some 389 := by decide +kernel
theorem vp_lt {i : Int32} {n : Nat} (h : vp_in i n) : i.toNatClampNeg < n := Nat.not_le.mp fun q => h (Or.inr q)
section QACMP
variable {p : Program} {l : Launch} {e : Env} {R : Room} {s : State} {m : MethodId} {args : Array Value} {below : List Frame} {meth : Method} {c : Code} {H : Heap} {locs : List Loc} {cells slots : Nat} {Q : State → Prop}
variable {cc : ByteArray} {pc : Nat} {ls : Array Slot} {rest : List Value}
theorem q_map {b0 : Nat} {rx ry : Option Nat} : rx.map (fun k => b0 + k) = ry.map (fun k => b0 + k) ↔ rx = ry := by
  cases rx <;> cases ry <;> simp
theorem q_acmp_eq {b0 : Nat} {rx ry : Option Nat} (hexec : p.tables.exec = Jvm.exec) (hb : c.code = cc) {off : Int} {tgt : Nat} (hdg : decode cc pc = .ok (.if_acmp .eq off, 3)) (ht : (pc : Int) + off = (tgt : Int))
    (kt : rx = ry → W p l e R s m args below meth c H locs cells slots Q (F0 m tgt ls rest)) (kf : ¬ rx = ry → W p l e R s m args below meth c H locs cells slots Q (F0 m (pc + 3) ls rest)) : W p l e R s m args below meth c H locs cells slots Q (F0 m pc ls (rf b0 ry :: rf b0 rx :: rest)) :=
  lv_acmp_eq hexec hb hdg ht (fun h => kt (q_map.mp h)) (fun h => kf (fun q => h (q_map.mpr q)))
theorem q_acmp_ne {b0 : Nat} {rx ry : Option Nat} (hexec : p.tables.exec = Jvm.exec) (hb : c.code = cc) {off : Int} {tgt : Nat} (hdg : decode cc pc = .ok (.if_acmp .ne off, 3)) (ht : (pc : Int) + off = (tgt : Int))
    (kt : ¬ rx = ry → W p l e R s m args below meth c H locs cells slots Q (F0 m tgt ls rest)) (kf : rx = ry → W p l e R s m args below meth c H locs cells slots Q (F0 m (pc + 3) ls rest)) : W p l e R s m args below meth c H locs cells slots Q (F0 m pc ls (rf b0 ry :: rf b0 rx :: rest)) :=
  lv_acmp_ne hexec hb hdg ht (fun h => kt (fun q => h (q_map.mpr q))) (fun h => kf (q_map.mp h))
end QACMP
end
section
theorem dX0_init_0 : decode cX0_init 0 = .ok (.aload_n 0, 1) := by decide +kernel
theorem dX0_init_1 : decode cX0_init 1 = .ok (.invokespecial 3, 3) := by decide +kernel
theorem dX0_init_4 : decode cX0_init 4 = .ok (.aload_n 0, 1) := by decide +kernel
theorem dX0_init_5 : decode cX0_init 5 = .ok (.bipush 12, 2) := by decide +kernel
theorem dX0_init_7 : decode cX0_init 7 = .ok (.newarray .int, 2) := by decide +kernel
theorem dX0_init_9 : decode cX0_init 9 = .ok (.putfield 9, 3) := by decide +kernel
theorem dX0_init_12 : decode cX0_init 12 = .ok (.aload_n 0, 1) := by decide +kernel
theorem dX0_init_13 : decode cX0_init 13 = .ok (.bipush 12, 2) := by decide +kernel
theorem dX0_init_15 : decode cX0_init 15 = .ok (.newarray .int, 2) := by decide +kernel
theorem dX0_init_17 : decode cX0_init 17 = .ok (.putfield 15, 3) := by decide +kernel
theorem dX0_init_20 : decode cX0_init 20 = .ok (.return_, 1) := by decide +kernel
theorem dX0_clear_0 : decode cX0_clear 0 = .ok (.aload_n 0, 1) := by decide +kernel
theorem dX0_clear_1 : decode cX0_clear 1 = .ok (.iconst 0, 1) := by decide +kernel
theorem dX0_clear_2 : decode cX0_clear 2 = .ok (.putfield 18, 3) := by decide +kernel
theorem dX0_clear_5 : decode cX0_clear 5 = .ok (.return_, 1) := by decide +kernel
theorem dX0_add_0 : decode cX0_add 0 = .ok (.aload_n 0, 1) := by decide +kernel
theorem dX0_add_1 : decode cX0_add 1 = .ok (.getfield 18, 3) := by decide +kernel
theorem dX0_add_4 : decode cX0_add 4 = .ok (.bipush 12, 2) := by decide +kernel
theorem dX0_add_6 : decode cX0_add 6 = .ok (.if_icmp .ge 23, 3) := by decide +kernel
theorem dX0_add_9 : decode cX0_add 9 = .ok (.aload_n 0, 1) := by decide +kernel
theorem dX0_add_10 : decode cX0_add 10 = .ok (.getfield 9, 3) := by decide +kernel
theorem dX0_add_13 : decode cX0_add 13 = .ok (.aload_n 0, 1) := by decide +kernel
theorem dX0_add_14 : decode cX0_add 14 = .ok (.getfield 18, 3) := by decide +kernel
theorem dX0_add_17 : decode cX0_add 17 = .ok (.iload_n 1, 1) := by decide +kernel
theorem dX0_add_18 : decode cX0_add 18 = .ok (.iastore, 1) := by decide +kernel
theorem dX0_add_19 : decode cX0_add 19 = .ok (.aload_n 0, 1) := by decide +kernel
theorem dX0_add_20 : decode cX0_add 20 = .ok (.dup, 1) := by decide +kernel
theorem dX0_add_21 : decode cX0_add 21 = .ok (.getfield 18, 3) := by decide +kernel
theorem dX0_add_24 : decode cX0_add 24 = .ok (.iconst 1, 1) := by decide +kernel
theorem dX0_add_25 : decode cX0_add 25 = .ok (.iadd, 1) := by decide +kernel
theorem dX0_add_26 : decode cX0_add 26 = .ok (.putfield 18, 3) := by decide +kernel
theorem dX0_add_29 : decode cX0_add 29 = .ok (.return_, 1) := by decide +kernel
set_option maxRecDepth 20000 in
theorem ggX0_leastColours_X0_waysOnBusiestFibre : GoodIn wsX0_leastColours wsX0_waysOnBusiestFibre := goodIn_r _ [6, 1, 7, 8, 9, 10, 11, 21, 22, 23] (by decide +kernel) (by decide +kernel)
set_option maxRecDepth 20000 in
theorem gX0_leastColours_X0_waysOnBusiestFibre : GoodIn wsX0_leastColours (wsV RX0 22 RX0 yX0_waysOnBusiestFibre wsX0_waysOnBusiestFibre) := goodIn_app (goodIn_of _ (by decide +kernel)) ggX0_leastColours_X0_waysOnBusiestFibre
set_option maxRecDepth 20000 in
theorem ggX0_leastColours_X0_canPaint : GoodIn wsX0_leastColours wsX0_canPaint := goodIn_r _ [15, 1, 16, 7, 8, 9, 10, 11, 17, 18, 19, 5, 20, 12, 13, 14, 21, 22, 23] (by decide +kernel) (by decide +kernel)
set_option maxRecDepth 20000 in
theorem gX0_leastColours_X0_canPaint : GoodIn wsX0_leastColours (wsV RX0 26 RX0 yX0_canPaint wsX0_canPaint) := goodIn_app (goodIn_of _ (by decide +kernel)) ggX0_leastColours_X0_canPaint
theorem dX0_leastColours_0 : decode cX0_leastColours 0 = .ok (.aload_n 0, 1) := by decide +kernel
theorem dX0_leastColours_1 : decode cX0_leastColours 1 = .ok (.invokevirtual 22, 3) := by decide +kernel
theorem dX0_leastColours_4 : decode cX0_leastColours 4 = .ok (.istore_n 1, 1) := by decide +kernel
theorem dX0_leastColours_5 : decode cX0_leastColours 5 = .ok (.iload_n 1, 1) := by decide +kernel
theorem dX0_leastColours_6 : decode cX0_leastColours 6 = .ok (.aload_n 0, 1) := by decide +kernel
theorem dX0_leastColours_7 : decode cX0_leastColours 7 = .ok (.getfield 18, 3) := by decide +kernel
theorem dX0_leastColours_10 : decode cX0_leastColours 10 = .ok (.if_icmp .ge 27, 3) := by decide +kernel
theorem dX0_leastColours_13 : decode cX0_leastColours 13 = .ok (.aload_n 0, 1) := by decide +kernel
theorem dX0_leastColours_14 : decode cX0_leastColours 14 = .ok (.iconst 1, 1) := by decide +kernel
theorem dX0_leastColours_15 : decode cX0_leastColours 15 = .ok (.aload_n 0, 1) := by decide +kernel
theorem dX0_leastColours_16 : decode cX0_leastColours 16 = .ok (.getfield 18, 3) := by decide +kernel
theorem dX0_leastColours_19 : decode cX0_leastColours 19 = .ok (.ishl, 1) := by decide +kernel
theorem dX0_leastColours_20 : decode cX0_leastColours 20 = .ok (.iconst 1, 1) := by decide +kernel
theorem dX0_leastColours_21 : decode cX0_leastColours 21 = .ok (.isub, 1) := by decide +kernel
theorem dX0_leastColours_22 : decode cX0_leastColours 22 = .ok (.iconst 0, 1) := by decide +kernel
theorem dX0_leastColours_23 : decode cX0_leastColours 23 = .ok (.iconst 0, 1) := by decide +kernel
theorem dX0_leastColours_24 : decode cX0_leastColours 24 = .ok (.iload_n 1, 1) := by decide +kernel
theorem dX0_leastColours_25 : decode cX0_leastColours 25 = .ok (.invokevirtual 26, 3) := by decide +kernel
theorem dX0_leastColours_28 : decode cX0_leastColours 28 = .ok (.ifCond .ne 9, 3) := by decide +kernel
theorem dX0_leastColours_31 : decode cX0_leastColours 31 = .ok (.iinc 1 1, 3) := by decide +kernel
theorem dX0_leastColours_34 : decode cX0_leastColours 34 = .ok (.goto (-29), 3) := by decide +kernel
theorem dX0_leastColours_37 : decode cX0_leastColours 37 = .ok (.iload_n 1, 1) := by decide +kernel
theorem dX0_leastColours_38 : decode cX0_leastColours 38 = .ok (.ireturn, 1) := by decide +kernel
theorem dX0_waysOnBusiestFibre_0 : decode cX0_waysOnBusiestFibre 0 = .ok (.iconst 0, 1) := by decide +kernel
theorem dX0_waysOnBusiestFibre_1 : decode cX0_waysOnBusiestFibre 1 = .ok (.istore_n 1, 1) := by decide +kernel
theorem dX0_waysOnBusiestFibre_2 : decode cX0_waysOnBusiestFibre 2 = .ok (.iconst 0, 1) := by decide +kernel
theorem dX0_waysOnBusiestFibre_3 : decode cX0_waysOnBusiestFibre 3 = .ok (.istore_n 2, 1) := by decide +kernel
theorem dX0_waysOnBusiestFibre_4 : decode cX0_waysOnBusiestFibre 4 = .ok (.iload_n 2, 1) := by decide +kernel
theorem dX0_waysOnBusiestFibre_5 : decode cX0_waysOnBusiestFibre 5 = .ok (.bipush 14, 2) := by decide +kernel
theorem dX0_waysOnBusiestFibre_7 : decode cX0_waysOnBusiestFibre 7 = .ok (.if_icmp .ge 49, 3) := by decide +kernel
theorem dX0_waysOnBusiestFibre_10 : decode cX0_waysOnBusiestFibre 10 = .ok (.iconst 0, 1) := by decide +kernel
theorem dX0_waysOnBusiestFibre_11 : decode cX0_waysOnBusiestFibre 11 = .ok (.istore_n 3, 1) := by decide +kernel
theorem dX0_waysOnBusiestFibre_12 : decode cX0_waysOnBusiestFibre 12 = .ok (.iconst 0, 1) := by decide +kernel
theorem dX0_waysOnBusiestFibre_13 : decode cX0_waysOnBusiestFibre 13 = .ok (.istore 4, 2) := by decide +kernel
theorem dX0_waysOnBusiestFibre_15 : decode cX0_waysOnBusiestFibre 15 = .ok (.iload 4, 2) := by decide +kernel
theorem dX0_waysOnBusiestFibre_17 : decode cX0_waysOnBusiestFibre 17 = .ok (.aload_n 0, 1) := by decide +kernel
theorem dX0_waysOnBusiestFibre_18 : decode cX0_waysOnBusiestFibre 18 = .ok (.getfield 18, 3) := by decide +kernel
theorem dX0_waysOnBusiestFibre_21 : decode cX0_waysOnBusiestFibre 21 = .ok (.if_icmp .ge 23, 3) := by decide +kernel
theorem dX0_waysOnBusiestFibre_24 : decode cX0_waysOnBusiestFibre 24 = .ok (.iload_n 3, 1) := by decide +kernel
theorem dX0_waysOnBusiestFibre_25 : decode cX0_waysOnBusiestFibre 25 = .ok (.aload_n 0, 1) := by decide +kernel
theorem dX0_waysOnBusiestFibre_26 : decode cX0_waysOnBusiestFibre 26 = .ok (.getfield 9, 3) := by decide +kernel
theorem dX0_waysOnBusiestFibre_29 : decode cX0_waysOnBusiestFibre 29 = .ok (.iload 4, 2) := by decide +kernel
theorem dX0_waysOnBusiestFibre_31 : decode cX0_waysOnBusiestFibre 31 = .ok (.iaload, 1) := by decide +kernel
theorem dX0_waysOnBusiestFibre_32 : decode cX0_waysOnBusiestFibre 32 = .ok (.iload_n 2, 1) := by decide +kernel
theorem dX0_waysOnBusiestFibre_33 : decode cX0_waysOnBusiestFibre 33 = .ok (.ishr, 1) := by decide +kernel
theorem dX0_waysOnBusiestFibre_34 : decode cX0_waysOnBusiestFibre 34 = .ok (.iconst 1, 1) := by decide +kernel
theorem dX0_waysOnBusiestFibre_35 : decode cX0_waysOnBusiestFibre 35 = .ok (.iand, 1) := by decide +kernel
theorem dX0_waysOnBusiestFibre_36 : decode cX0_waysOnBusiestFibre 36 = .ok (.iadd, 1) := by decide +kernel
theorem dX0_waysOnBusiestFibre_37 : decode cX0_waysOnBusiestFibre 37 = .ok (.istore_n 3, 1) := by decide +kernel
theorem dX0_waysOnBusiestFibre_38 : decode cX0_waysOnBusiestFibre 38 = .ok (.iinc 4 1, 3) := by decide +kernel
theorem dX0_waysOnBusiestFibre_41 : decode cX0_waysOnBusiestFibre 41 = .ok (.goto (-26), 3) := by decide +kernel
theorem dX0_waysOnBusiestFibre_44 : decode cX0_waysOnBusiestFibre 44 = .ok (.iload_n 1, 1) := by decide +kernel
theorem dX0_waysOnBusiestFibre_45 : decode cX0_waysOnBusiestFibre 45 = .ok (.iload_n 3, 1) := by decide +kernel
theorem dX0_waysOnBusiestFibre_46 : decode cX0_waysOnBusiestFibre 46 = .ok (.invokestatic 30, 3) := by decide +kernel
theorem dX0_waysOnBusiestFibre_49 : decode cX0_waysOnBusiestFibre 49 = .ok (.istore_n 1, 1) := by decide +kernel
theorem dX0_waysOnBusiestFibre_50 : decode cX0_waysOnBusiestFibre 50 = .ok (.iinc 2 1, 3) := by decide +kernel
theorem dX0_waysOnBusiestFibre_53 : decode cX0_waysOnBusiestFibre 53 = .ok (.goto (-49), 3) := by decide +kernel
theorem dX0_waysOnBusiestFibre_56 : decode cX0_waysOnBusiestFibre 56 = .ok (.iload_n 1, 1) := by decide +kernel
theorem dX0_waysOnBusiestFibre_57 : decode cX0_waysOnBusiestFibre 57 = .ok (.ireturn, 1) := by decide +kernel
set_option maxRecDepth 20000 in
theorem ggX0_canPaint_X0_mostBarred : GoodIn wsX0_canPaint wsX0_mostBarred := goodIn_r _ [12, 1, 2, 3, 16, 17, 18] (by decide +kernel) (by decide +kernel)
set_option maxRecDepth 20000 in
theorem gX0_canPaint_X0_mostBarred : GoodIn wsX0_canPaint (wsV RX0 36 RX0 yX0_mostBarred wsX0_mostBarred) := goodIn_app (goodIn_of _ (by decide +kernel)) ggX0_canPaint_X0_mostBarred
set_option maxRecDepth 20000 in
theorem ggX0_canPaint_X0_canPaint : GoodIn wsX0_canPaint wsX0_canPaint := goodIn_r _ [0, 1, 2, 3, 4, 5, 6, 7, 8, 9, 10, 11, 12, 13, 14, 15, 16, 17, 18] (by decide +kernel) (by decide +kernel)
set_option maxRecDepth 20000 in
theorem gX0_canPaint_X0_canPaint : GoodIn wsX0_canPaint (wsV RX0 26 RX0 yX0_canPaint wsX0_canPaint) := goodIn_app (goodIn_of _ (by decide +kernel)) ggX0_canPaint_X0_canPaint
theorem dX0_canPaint_0 : decode cX0_canPaint 0 = .ok (.iload_n 2, 1) := by decide +kernel
theorem dX0_canPaint_1 : decode cX0_canPaint 1 = .ok (.aload_n 0, 1) := by decide +kernel
theorem dX0_canPaint_2 : decode cX0_canPaint 2 = .ok (.getfield 18, 3) := by decide +kernel
theorem dX0_canPaint_5 : decode cX0_canPaint 5 = .ok (.if_icmp .lt 5, 3) := by decide +kernel
theorem dX0_canPaint_8 : decode cX0_canPaint 8 = .ok (.iconst 1, 1) := by decide +kernel
theorem dX0_canPaint_9 : decode cX0_canPaint 9 = .ok (.ireturn, 1) := by decide +kernel
theorem dX0_canPaint_10 : decode cX0_canPaint 10 = .ok (.aload_n 0, 1) := by decide +kernel
theorem dX0_canPaint_11 : decode cX0_canPaint 11 = .ok (.iload_n 1, 1) := by decide +kernel
theorem dX0_canPaint_12 : decode cX0_canPaint 12 = .ok (.iload_n 3, 1) := by decide +kernel
theorem dX0_canPaint_13 : decode cX0_canPaint 13 = .ok (.invokevirtual 36, 3) := by decide +kernel
theorem dX0_canPaint_16 : decode cX0_canPaint 16 = .ok (.istore 5, 2) := by decide +kernel
theorem dX0_canPaint_18 : decode cX0_canPaint 18 = .ok (.iconst 0, 1) := by decide +kernel
theorem dX0_canPaint_19 : decode cX0_canPaint 19 = .ok (.istore 6, 2) := by decide +kernel
theorem dX0_canPaint_21 : decode cX0_canPaint 21 = .ok (.iload 6, 2) := by decide +kernel
theorem dX0_canPaint_23 : decode cX0_canPaint 23 = .ok (.iload_n 3, 1) := by decide +kernel
theorem dX0_canPaint_24 : decode cX0_canPaint 24 = .ok (.if_icmp .gt 108, 3) := by decide +kernel
theorem dX0_canPaint_27 : decode cX0_canPaint 27 = .ok (.iload 6, 2) := by decide +kernel
theorem dX0_canPaint_29 : decode cX0_canPaint 29 = .ok (.iload 4, 2) := by decide +kernel
theorem dX0_canPaint_31 : decode cX0_canPaint 31 = .ok (.if_icmp .ge 101, 3) := by decide +kernel
theorem dX0_canPaint_34 : decode cX0_canPaint 34 = .ok (.aload_n 0, 1) := by decide +kernel
theorem dX0_canPaint_35 : decode cX0_canPaint 35 = .ok (.getfield 15, 3) := by decide +kernel
theorem dX0_canPaint_38 : decode cX0_canPaint 38 = .ok (.iload 6, 2) := by decide +kernel
theorem dX0_canPaint_40 : decode cX0_canPaint 40 = .ok (.iaload, 1) := by decide +kernel
theorem dX0_canPaint_41 : decode cX0_canPaint 41 = .ok (.aload_n 0, 1) := by decide +kernel
theorem dX0_canPaint_42 : decode cX0_canPaint 42 = .ok (.getfield 9, 3) := by decide +kernel
theorem dX0_canPaint_45 : decode cX0_canPaint 45 = .ok (.iload 5, 2) := by decide +kernel
theorem dX0_canPaint_47 : decode cX0_canPaint 47 = .ok (.iaload, 1) := by decide +kernel
theorem dX0_canPaint_48 : decode cX0_canPaint 48 = .ok (.iand, 1) := by decide +kernel
theorem dX0_canPaint_49 : decode cX0_canPaint 49 = .ok (.ifCond .ne 77, 3) := by decide +kernel
theorem dX0_canPaint_52 : decode cX0_canPaint 52 = .ok (.aload_n 0, 1) := by decide +kernel
theorem dX0_canPaint_53 : decode cX0_canPaint 53 = .ok (.getfield 15, 3) := by decide +kernel
theorem dX0_canPaint_56 : decode cX0_canPaint 56 = .ok (.iload 6, 2) := by decide +kernel
theorem dX0_canPaint_58 : decode cX0_canPaint 58 = .ok (.dup2, 1) := by decide +kernel
theorem dX0_canPaint_59 : decode cX0_canPaint 59 = .ok (.iaload, 1) := by decide +kernel
theorem dX0_canPaint_60 : decode cX0_canPaint 60 = .ok (.aload_n 0, 1) := by decide +kernel
theorem dX0_canPaint_61 : decode cX0_canPaint 61 = .ok (.getfield 9, 3) := by decide +kernel
theorem dX0_canPaint_64 : decode cX0_canPaint 64 = .ok (.iload 5, 2) := by decide +kernel
theorem dX0_canPaint_66 : decode cX0_canPaint 66 = .ok (.iaload, 1) := by decide +kernel
theorem dX0_canPaint_67 : decode cX0_canPaint 67 = .ok (.ior, 1) := by decide +kernel
theorem dX0_canPaint_68 : decode cX0_canPaint 68 = .ok (.iastore, 1) := by decide +kernel
theorem dX0_canPaint_69 : decode cX0_canPaint 69 = .ok (.iload_n 3, 1) := by decide +kernel
theorem dX0_canPaint_70 : decode cX0_canPaint 70 = .ok (.iload 6, 2) := by decide +kernel
theorem dX0_canPaint_72 : decode cX0_canPaint 72 = .ok (.iconst 1, 1) := by decide +kernel
theorem dX0_canPaint_73 : decode cX0_canPaint 73 = .ok (.iadd, 1) := by decide +kernel
theorem dX0_canPaint_74 : decode cX0_canPaint 74 = .ok (.invokestatic 30, 3) := by decide +kernel
theorem dX0_canPaint_77 : decode cX0_canPaint 77 = .ok (.istore 7, 2) := by decide +kernel
theorem dX0_canPaint_79 : decode cX0_canPaint 79 = .ok (.aload_n 0, 1) := by decide +kernel
theorem dX0_canPaint_80 : decode cX0_canPaint 80 = .ok (.iload_n 1, 1) := by decide +kernel
theorem dX0_canPaint_81 : decode cX0_canPaint 81 = .ok (.iconst 1, 1) := by decide +kernel
theorem dX0_canPaint_82 : decode cX0_canPaint 82 = .ok (.iload 5, 2) := by decide +kernel
theorem dX0_canPaint_84 : decode cX0_canPaint 84 = .ok (.ishl, 1) := by decide +kernel
theorem dX0_canPaint_85 : decode cX0_canPaint 85 = .ok (.iconst (-1), 1) := by decide +kernel
theorem dX0_canPaint_86 : decode cX0_canPaint 86 = .ok (.ixor, 1) := by decide +kernel
theorem dX0_canPaint_87 : decode cX0_canPaint 87 = .ok (.iand, 1) := by decide +kernel
theorem dX0_canPaint_88 : decode cX0_canPaint 88 = .ok (.iload_n 2, 1) := by decide +kernel
theorem dX0_canPaint_89 : decode cX0_canPaint 89 = .ok (.iconst 1, 1) := by decide +kernel
theorem dX0_canPaint_90 : decode cX0_canPaint 90 = .ok (.iadd, 1) := by decide +kernel
theorem dX0_canPaint_91 : decode cX0_canPaint 91 = .ok (.iload 7, 2) := by decide +kernel
theorem dX0_canPaint_93 : decode cX0_canPaint 93 = .ok (.iload 4, 2) := by decide +kernel
theorem dX0_canPaint_95 : decode cX0_canPaint 95 = .ok (.invokevirtual 26, 3) := by decide +kernel
theorem dX0_canPaint_98 : decode cX0_canPaint 98 = .ok (.istore 8, 2) := by decide +kernel
theorem dX0_canPaint_100 : decode cX0_canPaint 100 = .ok (.aload_n 0, 1) := by decide +kernel
theorem dX0_canPaint_101 : decode cX0_canPaint 101 = .ok (.getfield 15, 3) := by decide +kernel
theorem dX0_canPaint_104 : decode cX0_canPaint 104 = .ok (.iload 6, 2) := by decide +kernel
theorem dX0_canPaint_106 : decode cX0_canPaint 106 = .ok (.dup2, 1) := by decide +kernel
theorem dX0_canPaint_107 : decode cX0_canPaint 107 = .ok (.iaload, 1) := by decide +kernel
theorem dX0_canPaint_108 : decode cX0_canPaint 108 = .ok (.aload_n 0, 1) := by decide +kernel
theorem dX0_canPaint_109 : decode cX0_canPaint 109 = .ok (.getfield 9, 3) := by decide +kernel
theorem dX0_canPaint_112 : decode cX0_canPaint 112 = .ok (.iload 5, 2) := by decide +kernel
theorem dX0_canPaint_114 : decode cX0_canPaint 114 = .ok (.iaload, 1) := by decide +kernel
theorem dX0_canPaint_115 : decode cX0_canPaint 115 = .ok (.iconst (-1), 1) := by decide +kernel
theorem dX0_canPaint_116 : decode cX0_canPaint 116 = .ok (.ixor, 1) := by decide +kernel
theorem dX0_canPaint_117 : decode cX0_canPaint 117 = .ok (.iand, 1) := by decide +kernel
theorem dX0_canPaint_118 : decode cX0_canPaint 118 = .ok (.iastore, 1) := by decide +kernel
theorem dX0_canPaint_119 : decode cX0_canPaint 119 = .ok (.iload 8, 2) := by decide +kernel
theorem dX0_canPaint_121 : decode cX0_canPaint 121 = .ok (.ifCond .eq 5, 3) := by decide +kernel
theorem dX0_canPaint_124 : decode cX0_canPaint 124 = .ok (.iconst 1, 1) := by decide +kernel
theorem dX0_canPaint_125 : decode cX0_canPaint 125 = .ok (.ireturn, 1) := by decide +kernel
theorem dX0_canPaint_126 : decode cX0_canPaint 126 = .ok (.iinc 6 1, 3) := by decide +kernel
theorem dX0_canPaint_129 : decode cX0_canPaint 129 = .ok (.goto (-108), 3) := by decide +kernel
theorem dX0_canPaint_132 : decode cX0_canPaint 132 = .ok (.iconst 0, 1) := by decide +kernel
theorem dX0_canPaint_133 : decode cX0_canPaint 133 = .ok (.ireturn, 1) := by decide +kernel
theorem dX0_mostBarred_0 : decode cX0_mostBarred 0 = .ok (.iconst 0, 1) := by decide +kernel
theorem dX0_mostBarred_1 : decode cX0_mostBarred 1 = .ok (.istore_n 3, 1) := by decide +kernel
theorem dX0_mostBarred_2 : decode cX0_mostBarred 2 = .ok (.iconst (-1), 1) := by decide +kernel
theorem dX0_mostBarred_3 : decode cX0_mostBarred 3 = .ok (.istore 4, 2) := by decide +kernel
theorem dX0_mostBarred_5 : decode cX0_mostBarred 5 = .ok (.iconst 0, 1) := by decide +kernel
theorem dX0_mostBarred_6 : decode cX0_mostBarred 6 = .ok (.istore 5, 2) := by decide +kernel
theorem dX0_mostBarred_8 : decode cX0_mostBarred 8 = .ok (.iload 5, 2) := by decide +kernel
theorem dX0_mostBarred_10 : decode cX0_mostBarred 10 = .ok (.aload_n 0, 1) := by decide +kernel
theorem dX0_mostBarred_11 : decode cX0_mostBarred 11 = .ok (.getfield 18, 3) := by decide +kernel
theorem dX0_mostBarred_14 : decode cX0_mostBarred 14 = .ok (.if_icmp .ge 78, 3) := by decide +kernel
theorem dX0_mostBarred_17 : decode cX0_mostBarred 17 = .ok (.iload_n 1, 1) := by decide +kernel
theorem dX0_mostBarred_18 : decode cX0_mostBarred 18 = .ok (.iload 5, 2) := by decide +kernel
theorem dX0_mostBarred_20 : decode cX0_mostBarred 20 = .ok (.ishr, 1) := by decide +kernel
theorem dX0_mostBarred_21 : decode cX0_mostBarred 21 = .ok (.iconst 1, 1) := by decide +kernel
theorem dX0_mostBarred_22 : decode cX0_mostBarred 22 = .ok (.iand, 1) := by decide +kernel
theorem dX0_mostBarred_23 : decode cX0_mostBarred 23 = .ok (.ifCond .eq 63, 3) := by decide +kernel
theorem dX0_mostBarred_26 : decode cX0_mostBarred 26 = .ok (.iconst 0, 1) := by decide +kernel
theorem dX0_mostBarred_27 : decode cX0_mostBarred 27 = .ok (.istore 6, 2) := by decide +kernel
theorem dX0_mostBarred_29 : decode cX0_mostBarred 29 = .ok (.iconst 0, 1) := by decide +kernel
theorem dX0_mostBarred_30 : decode cX0_mostBarred 30 = .ok (.istore 7, 2) := by decide +kernel
theorem dX0_mostBarred_32 : decode cX0_mostBarred 32 = .ok (.iload 7, 2) := by decide +kernel
theorem dX0_mostBarred_34 : decode cX0_mostBarred 34 = .ok (.iload_n 2, 1) := by decide +kernel
theorem dX0_mostBarred_35 : decode cX0_mostBarred 35 = .ok (.if_icmp .ge 37, 3) := by decide +kernel
theorem dX0_mostBarred_38 : decode cX0_mostBarred 38 = .ok (.iload 6, 2) := by decide +kernel
theorem dX0_mostBarred_40 : decode cX0_mostBarred 40 = .ok (.aload_n 0, 1) := by decide +kernel
theorem dX0_mostBarred_41 : decode cX0_mostBarred 41 = .ok (.getfield 15, 3) := by decide +kernel
theorem dX0_mostBarred_44 : decode cX0_mostBarred 44 = .ok (.iload 7, 2) := by decide +kernel
theorem dX0_mostBarred_46 : decode cX0_mostBarred 46 = .ok (.iaload, 1) := by decide +kernel
theorem dX0_mostBarred_47 : decode cX0_mostBarred 47 = .ok (.aload_n 0, 1) := by decide +kernel
theorem dX0_mostBarred_48 : decode cX0_mostBarred 48 = .ok (.getfield 9, 3) := by decide +kernel
theorem dX0_mostBarred_51 : decode cX0_mostBarred 51 = .ok (.iload 5, 2) := by decide +kernel
theorem dX0_mostBarred_53 : decode cX0_mostBarred 53 = .ok (.iaload, 1) := by decide +kernel
theorem dX0_mostBarred_54 : decode cX0_mostBarred 54 = .ok (.iand, 1) := by decide +kernel
theorem dX0_mostBarred_55 : decode cX0_mostBarred 55 = .ok (.ifCond .eq 7, 3) := by decide +kernel
theorem dX0_mostBarred_58 : decode cX0_mostBarred 58 = .ok (.iconst 1, 1) := by decide +kernel
theorem dX0_mostBarred_59 : decode cX0_mostBarred 59 = .ok (.goto 4, 3) := by decide +kernel
theorem dX0_mostBarred_62 : decode cX0_mostBarred 62 = .ok (.iconst 0, 1) := by decide +kernel
theorem dX0_mostBarred_63 : decode cX0_mostBarred 63 = .ok (.iadd, 1) := by decide +kernel
theorem dX0_mostBarred_64 : decode cX0_mostBarred 64 = .ok (.istore 6, 2) := by decide +kernel
theorem dX0_mostBarred_66 : decode cX0_mostBarred 66 = .ok (.iinc 7 1, 3) := by decide +kernel
theorem dX0_mostBarred_69 : decode cX0_mostBarred 69 = .ok (.goto (-37), 3) := by decide +kernel
theorem dX0_mostBarred_72 : decode cX0_mostBarred 72 = .ok (.iload 6, 2) := by decide +kernel
theorem dX0_mostBarred_74 : decode cX0_mostBarred 74 = .ok (.iload 4, 2) := by decide +kernel
theorem dX0_mostBarred_76 : decode cX0_mostBarred 76 = .ok (.if_icmp .le 10, 3) := by decide +kernel
theorem dX0_mostBarred_79 : decode cX0_mostBarred 79 = .ok (.iload 6, 2) := by decide +kernel
theorem dX0_mostBarred_81 : decode cX0_mostBarred 81 = .ok (.istore 4, 2) := by decide +kernel
theorem dX0_mostBarred_83 : decode cX0_mostBarred 83 = .ok (.iload 5, 2) := by decide +kernel
theorem dX0_mostBarred_85 : decode cX0_mostBarred 85 = .ok (.istore_n 3, 1) := by decide +kernel
theorem dX0_mostBarred_86 : decode cX0_mostBarred 86 = .ok (.iinc 5 1, 3) := by decide +kernel
theorem dX0_mostBarred_89 : decode cX0_mostBarred 89 = .ok (.goto (-81), 3) := by decide +kernel
theorem dX0_mostBarred_92 : decode cX0_mostBarred 92 = .ok (.iload_n 3, 1) := by decide +kernel
theorem dX0_mostBarred_93 : decode cX0_mostBarred 93 = .ok (.ireturn, 1) := by decide +kernel
set_option maxRecDepth 20000 in
theorem ggX1_init_X3_init : GoodIn wsX1_init wsX3_init := goodIn_r _ [11, 12, 2, 3] (by decide +kernel) (by decide +kernel)
set_option maxRecDepth 20000 in
theorem gX1_init_X3_init_n9 : GoodIn wsX1_init (wsX3_init) := ggX1_init_X3_init
theorem dX1_init_0 : decode cX1_init 0 = .ok (.aload_n 0, 1) := by decide +kernel
theorem dX1_init_1 : decode cX1_init 1 = .ok (.invokespecial 1, 3) := by decide +kernel
theorem dX1_init_4 : decode cX1_init 4 = .ok (.aload_n 0, 1) := by decide +kernel
theorem dX1_init_5 : decode cX1_init 5 = .ok (.new 7, 3) := by decide +kernel
theorem dX1_init_8 : decode cX1_init 8 = .ok (.dup, 1) := by decide +kernel
theorem dX1_init_9 : decode cX1_init 9 = .ok (.invokespecial 9, 3) := by decide +kernel
theorem dX1_init_12 : decode cX1_init 12 = .ok (.putfield 10, 3) := by decide +kernel
theorem dX1_init_15 : decode cX1_init 15 = .ok (.aload_n 0, 1) := by decide +kernel
theorem dX1_init_16 : decode cX1_init 16 = .ok (.new 7, 3) := by decide +kernel
theorem dX1_init_19 : decode cX1_init 19 = .ok (.dup, 1) := by decide +kernel
theorem dX1_init_20 : decode cX1_init 20 = .ok (.invokespecial 9, 3) := by decide +kernel
theorem dX1_init_23 : decode cX1_init 23 = .ok (.putfield 16, 3) := by decide +kernel
theorem dX1_init_26 : decode cX1_init 26 = .ok (.aload_n 0, 1) := by decide +kernel
theorem dX1_init_27 : decode cX1_init 27 = .ok (.iload_n 1, 1) := by decide +kernel
theorem dX1_init_28 : decode cX1_init 28 = .ok (.putfield 19, 3) := by decide +kernel
theorem dX1_init_31 : decode cX1_init 31 = .ok (.return_, 1) := by decide +kernel
set_option maxRecDepth 20000 in
theorem ggX1_start_X3_become : GoodIn wsX1_start wsX3_become := goodIn_r _ [11, 12, 13, 14, 15, 16, 24, 25, 26, 27, 28] (by decide +kernel) (by decide +kernel)
set_option maxRecDepth 20000 in
theorem gX1_start_X3_become : GoodIn wsX1_start (wsV RX1 32 RX3 yX3_become wsX3_become) := goodIn_app (goodIn_of _ (by decide +kernel)) ggX1_start_X3_become
theorem dX1_start_0 : decode cX1_start 0 = .ok (.aload_n 0, 1) := by decide +kernel
theorem dX1_start_1 : decode cX1_start 1 = .ok (.iload_n 1, 1) := by decide +kernel
theorem dX1_start_2 : decode cX1_start 2 = .ok (.putfield 23, 3) := by decide +kernel
theorem dX1_start_5 : decode cX1_start 5 = .ok (.aload_n 0, 1) := by decide +kernel
theorem dX1_start_6 : decode cX1_start 6 = .ok (.iload_n 2, 1) := by decide +kernel
theorem dX1_start_7 : decode cX1_start 7 = .ok (.putfield 26, 3) := by decide +kernel
theorem dX1_start_10 : decode cX1_start 10 = .ok (.aload_n 0, 1) := by decide +kernel
theorem dX1_start_11 : decode cX1_start 11 = .ok (.iconst 0, 1) := by decide +kernel
theorem dX1_start_12 : decode cX1_start 12 = .ok (.putfield 29, 3) := by decide +kernel
theorem dX1_start_15 : decode cX1_start 15 = .ok (.aload_n 0, 1) := by decide +kernel
theorem dX1_start_16 : decode cX1_start 16 = .ok (.getfield 10, 3) := by decide +kernel
theorem dX1_start_19 : decode cX1_start 19 = .ok (.aload_n 3, 1) := by decide +kernel
theorem dX1_start_20 : decode cX1_start 20 = .ok (.invokevirtual 32, 3) := by decide +kernel
theorem dX1_start_23 : decode cX1_start 23 = .ok (.aload_n 0, 1) := by decide +kernel
theorem dX1_start_24 : decode cX1_start 24 = .ok (.aload 4, 2) := by decide +kernel
theorem dX1_start_26 : decode cX1_start 26 = .ok (.ifnull 7, 3) := by decide +kernel
theorem dX1_start_29 : decode cX1_start 29 = .ok (.iconst 1, 1) := by decide +kernel
theorem dX1_start_30 : decode cX1_start 30 = .ok (.goto 4, 3) := by decide +kernel
theorem dX1_start_33 : decode cX1_start 33 = .ok (.iconst 0, 1) := by decide +kernel
theorem dX1_start_34 : decode cX1_start 34 = .ok (.putfield 36, 3) := by decide +kernel
theorem dX1_start_37 : decode cX1_start 37 = .ok (.aload 4, 2) := by decide +kernel
theorem dX1_start_39 : decode cX1_start 39 = .ok (.ifnull 12, 3) := by decide +kernel
theorem dX1_start_42 : decode cX1_start 42 = .ok (.aload_n 0, 1) := by decide +kernel
theorem dX1_start_43 : decode cX1_start 43 = .ok (.getfield 16, 3) := by decide +kernel
theorem dX1_start_46 : decode cX1_start 46 = .ok (.aload 4, 2) := by decide +kernel
theorem dX1_start_48 : decode cX1_start 48 = .ok (.invokevirtual 32, 3) := by decide +kernel
theorem dX1_start_51 : decode cX1_start 51 = .ok (.return_, 1) := by decide +kernel
theorem dX1_isGone_0 : decode cX1_isGone 0 = .ok (.aload_n 0, 1) := by decide +kernel
theorem dX1_isGone_1 : decode cX1_isGone 1 = .ok (.getfield 29, 3) := by decide +kernel
theorem dX1_isGone_4 : decode cX1_isGone 4 = .ok (.ifCond .ne 7, 3) := by decide +kernel
theorem dX1_isGone_7 : decode cX1_isGone 7 = .ok (.iconst 1, 1) := by decide +kernel
theorem dX1_isGone_8 : decode cX1_isGone 8 = .ok (.goto 4, 3) := by decide +kernel
theorem dX1_isGone_11 : decode cX1_isGone 11 = .ok (.iconst 0, 1) := by decide +kernel
theorem dX1_isGone_12 : decode cX1_isGone 12 = .ok (.ireturn, 1) := by decide +kernel
set_option maxRecDepth 20000 in
theorem ggX1_isUp_X1_isGone : GoodIn wsX1_isUp wsX1_isGone := goodIn_r _ [9, 10, 11, 12, 13, 14, 15, 16, 17] (by decide +kernel) (by decide +kernel)
set_option maxRecDepth 20000 in
theorem gX1_isUp_X1_isGone : GoodIn wsX1_isUp (wsV RX1 40 RX1 yX1_isGone wsX1_isGone) := goodIn_app (goodIn_of _ (by decide +kernel)) ggX1_isUp_X1_isGone
theorem dX1_isUp_0 : decode cX1_isUp 0 = .ok (.aload_n 0, 1) := by decide +kernel
theorem dX1_isUp_1 : decode cX1_isUp 1 = .ok (.invokevirtual 40, 3) := by decide +kernel
theorem dX1_isUp_4 : decode cX1_isUp 4 = .ok (.ifCond .eq 5, 3) := by decide +kernel
theorem dX1_isUp_7 : decode cX1_isUp 7 = .ok (.iconst 0, 1) := by decide +kernel
theorem dX1_isUp_8 : decode cX1_isUp 8 = .ok (.ireturn, 1) := by decide +kernel
theorem dX1_isUp_9 : decode cX1_isUp 9 = .ok (.aload_n 0, 1) := by decide +kernel
theorem dX1_isUp_10 : decode cX1_isUp 10 = .ok (.getfield 10, 3) := by decide +kernel
theorem dX1_isUp_13 : decode cX1_isUp 13 = .ok (.getfield 44, 3) := by decide +kernel
theorem dX1_isUp_16 : decode cX1_isUp 16 = .ok (.iload_n 1, 1) := by decide +kernel
theorem dX1_isUp_17 : decode cX1_isUp 17 = .ok (.iand, 1) := by decide +kernel
theorem dX1_isUp_18 : decode cX1_isUp 18 = .ok (.ifCond .eq 22, 3) := by decide +kernel
theorem dX1_isUp_21 : decode cX1_isUp 21 = .ok (.aload_n 0, 1) := by decide +kernel
theorem dX1_isUp_22 : decode cX1_isUp 22 = .ok (.getfield 36, 3) := by decide +kernel
theorem dX1_isUp_25 : decode cX1_isUp 25 = .ok (.ifCond .eq 19, 3) := by decide +kernel
theorem dX1_isUp_28 : decode cX1_isUp 28 = .ok (.aload_n 0, 1) := by decide +kernel
theorem dX1_isUp_29 : decode cX1_isUp 29 = .ok (.getfield 16, 3) := by decide +kernel
theorem dX1_isUp_32 : decode cX1_isUp 32 = .ok (.getfield 44, 3) := by decide +kernel
theorem dX1_isUp_35 : decode cX1_isUp 35 = .ok (.iload_n 1, 1) := by decide +kernel
theorem dX1_isUp_36 : decode cX1_isUp 36 = .ok (.iand, 1) := by decide +kernel
theorem dX1_isUp_37 : decode cX1_isUp 37 = .ok (.ifCond .ne 7, 3) := by decide +kernel
theorem dX1_isUp_40 : decode cX1_isUp 40 = .ok (.iconst 1, 1) := by decide +kernel
theorem dX1_isUp_41 : decode cX1_isUp 41 = .ok (.goto 4, 3) := by decide +kernel
theorem dX1_isUp_44 : decode cX1_isUp 44 = .ok (.iconst 0, 1) := by decide +kernel
theorem dX1_isUp_45 : decode cX1_isUp 45 = .ok (.ireturn, 1) := by decide +kernel
theorem dX1_joins_0 : decode cX1_joins 0 = .ok (.aload_n 0, 1) := by decide +kernel
theorem dX1_joins_1 : decode cX1_joins 1 = .ok (.getfield 23, 3) := by decide +kernel
theorem dX1_joins_4 : decode cX1_joins 4 = .ok (.iload_n 1, 1) := by decide +kernel
theorem dX1_joins_5 : decode cX1_joins 5 = .ok (.if_icmp .ne 11, 3) := by decide +kernel
theorem dX1_joins_8 : decode cX1_joins 8 = .ok (.aload_n 0, 1) := by decide +kernel
theorem dX1_joins_9 : decode cX1_joins 9 = .ok (.getfield 26, 3) := by decide +kernel
theorem dX1_joins_12 : decode cX1_joins 12 = .ok (.iload_n 2, 1) := by decide +kernel
theorem dX1_joins_13 : decode cX1_joins 13 = .ok (.if_icmp .eq 19, 3) := by decide +kernel
theorem dX1_joins_16 : decode cX1_joins 16 = .ok (.aload_n 0, 1) := by decide +kernel
theorem dX1_joins_17 : decode cX1_joins 17 = .ok (.getfield 23, 3) := by decide +kernel
theorem dX1_joins_20 : decode cX1_joins 20 = .ok (.iload_n 2, 1) := by decide +kernel
theorem dX1_joins_21 : decode cX1_joins 21 = .ok (.if_icmp .ne 15, 3) := by decide +kernel
theorem dX1_joins_24 : decode cX1_joins 24 = .ok (.aload_n 0, 1) := by decide +kernel
theorem dX1_joins_25 : decode cX1_joins 25 = .ok (.getfield 26, 3) := by decide +kernel
theorem dX1_joins_28 : decode cX1_joins 28 = .ok (.iload_n 1, 1) := by decide +kernel
theorem dX1_joins_29 : decode cX1_joins 29 = .ok (.if_icmp .ne 7, 3) := by decide +kernel
theorem dX1_joins_32 : decode cX1_joins 32 = .ok (.iconst 1, 1) := by decide +kernel
theorem dX1_joins_33 : decode cX1_joins 33 = .ok (.goto 4, 3) := by decide +kernel
theorem dX1_joins_36 : decode cX1_joins 36 = .ok (.iconst 0, 1) := by decide +kernel
theorem dX1_joins_37 : decode cX1_joins 37 = .ok (.ireturn, 1) := by decide +kernel
set_option maxRecDepth 20000 in
theorem ggX1_wayAt_X1_isGone : GoodIn wsX1_wayAt wsX1_isGone := goodIn_r _ [8, 9, 10, 11, 12, 13, 14, 15, 16] (by decide +kernel) (by decide +kernel)
set_option maxRecDepth 20000 in
theorem gX1_wayAt_X1_isGone : GoodIn wsX1_wayAt (wsV RX1 40 RX1 yX1_isGone wsX1_isGone) := goodIn_app (goodIn_of _ (by decide +kernel)) ggX1_wayAt_X1_isGone
theorem dX1_wayAt_0 : decode cX1_wayAt 0 = .ok (.aload_n 0, 1) := by decide +kernel
theorem dX1_wayAt_1 : decode cX1_wayAt 1 = .ok (.invokevirtual 40, 3) := by decide +kernel
theorem dX1_wayAt_4 : decode cX1_wayAt 4 = .ok (.ifCond .eq 5, 3) := by decide +kernel
theorem dX1_wayAt_7 : decode cX1_wayAt 7 = .ok (.aconst_null, 1) := by decide +kernel
theorem dX1_wayAt_8 : decode cX1_wayAt 8 = .ok (.areturn, 1) := by decide +kernel
theorem dX1_wayAt_9 : decode cX1_wayAt 9 = .ok (.iload_n 1, 1) := by decide +kernel
theorem dX1_wayAt_10 : decode cX1_wayAt 10 = .ok (.ifCond .ne 8, 3) := by decide +kernel
theorem dX1_wayAt_13 : decode cX1_wayAt 13 = .ok (.aload_n 0, 1) := by decide +kernel
theorem dX1_wayAt_14 : decode cX1_wayAt 14 = .ok (.getfield 10, 3) := by decide +kernel
theorem dX1_wayAt_17 : decode cX1_wayAt 17 = .ok (.areturn, 1) := by decide +kernel
theorem dX1_wayAt_18 : decode cX1_wayAt 18 = .ok (.iload_n 1, 1) := by decide +kernel
theorem dX1_wayAt_19 : decode cX1_wayAt 19 = .ok (.iconst 1, 1) := by decide +kernel
theorem dX1_wayAt_20 : decode cX1_wayAt 20 = .ok (.if_icmp .ne 17, 3) := by decide +kernel
theorem dX1_wayAt_23 : decode cX1_wayAt 23 = .ok (.aload_n 0, 1) := by decide +kernel
theorem dX1_wayAt_24 : decode cX1_wayAt 24 = .ok (.getfield 36, 3) := by decide +kernel
theorem dX1_wayAt_27 : decode cX1_wayAt 27 = .ok (.ifCond .eq 10, 3) := by decide +kernel
theorem dX1_wayAt_30 : decode cX1_wayAt 30 = .ok (.aload_n 0, 1) := by decide +kernel
theorem dX1_wayAt_31 : decode cX1_wayAt 31 = .ok (.getfield 16, 3) := by decide +kernel
theorem dX1_wayAt_34 : decode cX1_wayAt 34 = .ok (.goto 4, 3) := by decide +kernel
theorem dX1_wayAt_37 : decode cX1_wayAt 37 = .ok (.aconst_null, 1) := by decide +kernel
theorem dX1_wayAt_38 : decode cX1_wayAt 38 = .ok (.areturn, 1) := by decide +kernel
set_option maxRecDepth 20000 in
theorem ggX1_wavelengthsOn_X1_isGone : GoodIn wsX1_wavelengthsOn wsX1_isGone := goodIn_r _ [8, 9, 26, 27, 28, 29, 30, 31, 32] (by decide +kernel) (by decide +kernel)
set_option maxRecDepth 20000 in
theorem gX1_wavelengthsOn_X1_isGone : GoodIn wsX1_wavelengthsOn (wsV RX1 40 RX1 yX1_isGone wsX1_isGone) := goodIn_app (goodIn_of _ (by decide +kernel)) ggX1_wavelengthsOn_X1_isGone
set_option maxRecDepth 20000 in
theorem ggX1_wavelengthsOn_X3_wavelengthsOn : GoodIn wsX1_wavelengthsOn wsX3_wavelengthsOn := goodIn_r _ [14, 15, 16, 17, 18, 13, 19, 20, 21, 22, 23, 24, 25, 33, 34, 35, 36, 37] (by decide +kernel) (by decide +kernel)
set_option maxRecDepth 20000 in
theorem gX1_wavelengthsOn_X3_wavelengthsOn : GoodIn wsX1_wavelengthsOn (wsV RX1 47 RX3 yX3_wavelengthsOn wsX3_wavelengthsOn) := goodIn_app (goodIn_of _ (by decide +kernel)) ggX1_wavelengthsOn_X3_wavelengthsOn
theorem dX1_wavelengthsOn_0 : decode cX1_wavelengthsOn 0 = .ok (.aload_n 0, 1) := by decide +kernel
theorem dX1_wavelengthsOn_1 : decode cX1_wavelengthsOn 1 = .ok (.invokevirtual 40, 3) := by decide +kernel
theorem dX1_wavelengthsOn_4 : decode cX1_wavelengthsOn 4 = .ok (.ifCond .eq 5, 3) := by decide +kernel
theorem dX1_wavelengthsOn_7 : decode cX1_wavelengthsOn 7 = .ok (.iconst 0, 1) := by decide +kernel
theorem dX1_wavelengthsOn_8 : decode cX1_wavelengthsOn 8 = .ok (.ireturn, 1) := by decide +kernel
theorem dX1_wavelengthsOn_9 : decode cX1_wavelengthsOn 9 = .ok (.aload_n 0, 1) := by decide +kernel
theorem dX1_wavelengthsOn_10 : decode cX1_wavelengthsOn 10 = .ok (.getfield 10, 3) := by decide +kernel
theorem dX1_wavelengthsOn_13 : decode cX1_wavelengthsOn 13 = .ok (.iload_n 1, 1) := by decide +kernel
theorem dX1_wavelengthsOn_14 : decode cX1_wavelengthsOn 14 = .ok (.invokevirtual 47, 3) := by decide +kernel
theorem dX1_wavelengthsOn_17 : decode cX1_wavelengthsOn 17 = .ok (.istore_n 2, 1) := by decide +kernel
theorem dX1_wavelengthsOn_18 : decode cX1_wavelengthsOn 18 = .ok (.aload_n 0, 1) := by decide +kernel
theorem dX1_wavelengthsOn_19 : decode cX1_wavelengthsOn 19 = .ok (.getfield 36, 3) := by decide +kernel
theorem dX1_wavelengthsOn_22 : decode cX1_wavelengthsOn 22 = .ok (.ifCond .eq 16, 3) := by decide +kernel
theorem dX1_wavelengthsOn_25 : decode cX1_wavelengthsOn 25 = .ok (.iload_n 2, 1) := by decide +kernel
theorem dX1_wavelengthsOn_26 : decode cX1_wavelengthsOn 26 = .ok (.aload_n 0, 1) := by decide +kernel
theorem dX1_wavelengthsOn_27 : decode cX1_wavelengthsOn 27 = .ok (.getfield 16, 3) := by decide +kernel
theorem dX1_wavelengthsOn_30 : decode cX1_wavelengthsOn 30 = .ok (.iload_n 1, 1) := by decide +kernel
theorem dX1_wavelengthsOn_31 : decode cX1_wavelengthsOn 31 = .ok (.invokevirtual 47, 3) := by decide +kernel
theorem dX1_wavelengthsOn_34 : decode cX1_wavelengthsOn 34 = .ok (.ior, 1) := by decide +kernel
theorem dX1_wavelengthsOn_35 : decode cX1_wavelengthsOn 35 = .ok (.goto 4, 3) := by decide +kernel
theorem dX1_wavelengthsOn_38 : decode cX1_wavelengthsOn 38 = .ok (.iload_n 2, 1) := by decide +kernel
theorem dX1_wavelengthsOn_39 : decode cX1_wavelengthsOn 39 = .ok (.ireturn, 1) := by decide +kernel
theorem dX2_init_0 : decode cX2_init 0 = .ok (.aload_n 0, 1) := by decide +kernel
theorem dX2_init_1 : decode cX2_init 1 = .ok (.invokespecial 3, 3) := by decide +kernel
theorem dX2_init_4 : decode cX2_init 4 = .ok (.aload_n 0, 1) := by decide +kernel
theorem dX2_init_5 : decode cX2_init 5 = .ok (.iconst 4, 1) := by decide +kernel
theorem dX2_init_6 : decode cX2_init 6 = .ok (.putfield 9, 3) := by decide +kernel
theorem dX2_init_9 : decode cX2_init 9 = .ok (.aload_n 0, 1) := by decide +kernel
theorem dX2_init_10 : decode cX2_init 10 = .ok (.iconst 4, 1) := by decide +kernel
theorem dX2_init_11 : decode cX2_init 11 = .ok (.putfield 15, 3) := by decide +kernel
theorem dX2_init_14 : decode cX2_init 14 = .ok (.aload_n 0, 1) := by decide +kernel
theorem dX2_init_15 : decode cX2_init 15 = .ok (.bipush 14, 2) := by decide +kernel
theorem dX2_init_17 : decode cX2_init 17 = .ok (.newarray .int, 2) := by decide +kernel
theorem dX2_init_19 : decode cX2_init 19 = .ok (.putfield 18, 3) := by decide +kernel
theorem dX2_init_22 : decode cX2_init 22 = .ok (.aload_n 0, 1) := by decide +kernel
theorem dX2_init_23 : decode cX2_init 23 = .ok (.bipush 14, 2) := by decide +kernel
theorem dX2_init_25 : decode cX2_init 25 = .ok (.newarray .int, 2) := by decide +kernel
theorem dX2_init_27 : decode cX2_init 27 = .ok (.putfield 22, 3) := by decide +kernel
theorem dX2_init_30 : decode cX2_init 30 = .ok (.aload_n 0, 1) := by decide +kernel
theorem dX2_init_31 : decode cX2_init 31 = .ok (.bipush 14, 2) := by decide +kernel
theorem dX2_init_33 : decode cX2_init 33 = .ok (.newarray .int, 2) := by decide +kernel
theorem dX2_init_35 : decode cX2_init 35 = .ok (.putfield 25, 3) := by decide +kernel
theorem dX2_init_38 : decode cX2_init 38 = .ok (.return_, 1) := by decide +kernel
theorem dX2_startAgain_0 : decode cX2_startAgain 0 = .ok (.aload_n 0, 1) := by decide +kernel
theorem dX2_startAgain_1 : decode cX2_startAgain 1 = .ok (.iload_n 1, 1) := by decide +kernel
theorem dX2_startAgain_2 : decode cX2_startAgain 2 = .ok (.putfield 9, 3) := by decide +kernel
theorem dX2_startAgain_5 : decode cX2_startAgain 5 = .ok (.aload_n 0, 1) := by decide +kernel
theorem dX2_startAgain_6 : decode cX2_startAgain 6 = .ok (.iload_n 2, 1) := by decide +kernel
theorem dX2_startAgain_7 : decode cX2_startAgain 7 = .ok (.putfield 15, 3) := by decide +kernel
theorem dX2_startAgain_10 : decode cX2_startAgain 10 = .ok (.aload_n 0, 1) := by decide +kernel
theorem dX2_startAgain_11 : decode cX2_startAgain 11 = .ok (.iconst 0, 1) := by decide +kernel
theorem dX2_startAgain_12 : decode cX2_startAgain 12 = .ok (.putfield 28, 3) := by decide +kernel
theorem dX2_startAgain_15 : decode cX2_startAgain 15 = .ok (.aload_n 0, 1) := by decide +kernel
theorem dX2_startAgain_16 : decode cX2_startAgain 16 = .ok (.iconst 0, 1) := by decide +kernel
theorem dX2_startAgain_17 : decode cX2_startAgain 17 = .ok (.putfield 31, 3) := by decide +kernel
theorem dX2_startAgain_20 : decode cX2_startAgain 20 = .ok (.aload_n 0, 1) := by decide +kernel
theorem dX2_startAgain_21 : decode cX2_startAgain 21 = .ok (.iconst 0, 1) := by decide +kernel
theorem dX2_startAgain_22 : decode cX2_startAgain 22 = .ok (.putfield 34, 3) := by decide +kernel
theorem dX2_startAgain_25 : decode cX2_startAgain 25 = .ok (.return_, 1) := by decide +kernel
theorem dX2_join_0 : decode cX2_join 0 = .ok (.aload_n 0, 1) := by decide +kernel
theorem dX2_join_1 : decode cX2_join 1 = .ok (.getfield 28, 3) := by decide +kernel
theorem dX2_join_4 : decode cX2_join 4 = .ok (.istore 4, 2) := by decide +kernel
theorem dX2_join_6 : decode cX2_join 6 = .ok (.iload 4, 2) := by decide +kernel
theorem dX2_join_8 : decode cX2_join 8 = .ok (.bipush 14, 2) := by decide +kernel
theorem dX2_join_10 : decode cX2_join 10 = .ok (.if_icmp .lt 5, 3) := by decide +kernel
theorem dX2_join_13 : decode cX2_join 13 = .ok (.iconst (-1), 1) := by decide +kernel
theorem dX2_join_14 : decode cX2_join 14 = .ok (.ireturn, 1) := by decide +kernel
theorem dX2_join_15 : decode cX2_join 15 = .ok (.aload_n 0, 1) := by decide +kernel
theorem dX2_join_16 : decode cX2_join 16 = .ok (.getfield 18, 3) := by decide +kernel
theorem dX2_join_19 : decode cX2_join 19 = .ok (.iload 4, 2) := by decide +kernel
theorem dX2_join_21 : decode cX2_join 21 = .ok (.iload_n 1, 1) := by decide +kernel
theorem dX2_join_22 : decode cX2_join 22 = .ok (.iastore, 1) := by decide +kernel
theorem dX2_join_23 : decode cX2_join 23 = .ok (.aload_n 0, 1) := by decide +kernel
theorem dX2_join_24 : decode cX2_join 24 = .ok (.getfield 22, 3) := by decide +kernel
theorem dX2_join_27 : decode cX2_join 27 = .ok (.iload 4, 2) := by decide +kernel
theorem dX2_join_29 : decode cX2_join 29 = .ok (.iload_n 2, 1) := by decide +kernel
theorem dX2_join_30 : decode cX2_join 30 = .ok (.iastore, 1) := by decide +kernel
theorem dX2_join_31 : decode cX2_join 31 = .ok (.aload_n 0, 1) := by decide +kernel
theorem dX2_join_32 : decode cX2_join 32 = .ok (.getfield 25, 3) := by decide +kernel
theorem dX2_join_35 : decode cX2_join 35 = .ok (.iload 4, 2) := by decide +kernel
theorem dX2_join_37 : decode cX2_join 37 = .ok (.iload_n 3, 1) := by decide +kernel
theorem dX2_join_38 : decode cX2_join 38 = .ok (.iastore, 1) := by decide +kernel
theorem dX2_join_39 : decode cX2_join 39 = .ok (.aload_n 0, 1) := by decide +kernel
theorem dX2_join_40 : decode cX2_join 40 = .ok (.dup, 1) := by decide +kernel
theorem dX2_join_41 : decode cX2_join 41 = .ok (.getfield 28, 3) := by decide +kernel
theorem dX2_join_44 : decode cX2_join 44 = .ok (.iconst 1, 1) := by decide +kernel
theorem dX2_join_45 : decode cX2_join 45 = .ok (.iadd, 1) := by decide +kernel
theorem dX2_join_46 : decode cX2_join 46 = .ok (.putfield 28, 3) := by decide +kernel
theorem dX2_join_49 : decode cX2_join 49 = .ok (.iload 4, 2) := by decide +kernel
theorem dX2_join_51 : decode cX2_join 51 = .ok (.ireturn, 1) := by decide +kernel
theorem dX2_hasNode_0 : decode cX2_hasNode 0 = .ok (.iload_n 1, 1) := by decide +kernel
theorem dX2_hasNode_1 : decode cX2_hasNode 1 = .ok (.ifCond .lt 15, 3) := by decide +kernel
theorem dX2_hasNode_4 : decode cX2_hasNode 4 = .ok (.iload_n 1, 1) := by decide +kernel
theorem dX2_hasNode_5 : decode cX2_hasNode 5 = .ok (.aload_n 0, 1) := by decide +kernel
theorem dX2_hasNode_6 : decode cX2_hasNode 6 = .ok (.getfield 9, 3) := by decide +kernel
theorem dX2_hasNode_9 : decode cX2_hasNode 9 = .ok (.if_icmp .ge 7, 3) := by decide +kernel
theorem dX2_hasNode_12 : decode cX2_hasNode 12 = .ok (.iconst 1, 1) := by decide +kernel
theorem dX2_hasNode_13 : decode cX2_hasNode 13 = .ok (.goto 4, 3) := by decide +kernel
theorem dX2_hasNode_16 : decode cX2_hasNode 16 = .ok (.iconst 0, 1) := by decide +kernel
theorem dX2_hasNode_17 : decode cX2_hasNode 17 = .ok (.ireturn, 1) := by decide +kernel
theorem dX2_hasFibre_0 : decode cX2_hasFibre 0 = .ok (.iload_n 1, 1) := by decide +kernel
theorem dX2_hasFibre_1 : decode cX2_hasFibre 1 = .ok (.ifCond .lt 15, 3) := by decide +kernel
theorem dX2_hasFibre_4 : decode cX2_hasFibre 4 = .ok (.iload_n 1, 1) := by decide +kernel
theorem dX2_hasFibre_5 : decode cX2_hasFibre 5 = .ok (.aload_n 0, 1) := by decide +kernel
theorem dX2_hasFibre_6 : decode cX2_hasFibre 6 = .ok (.getfield 28, 3) := by decide +kernel
theorem dX2_hasFibre_9 : decode cX2_hasFibre 9 = .ok (.if_icmp .ge 7, 3) := by decide +kernel
theorem dX2_hasFibre_12 : decode cX2_hasFibre 12 = .ok (.iconst 1, 1) := by decide +kernel
theorem dX2_hasFibre_13 : decode cX2_hasFibre 13 = .ok (.goto 4, 3) := by decide +kernel
theorem dX2_hasFibre_16 : decode cX2_hasFibre 16 = .ok (.iconst 0, 1) := by decide +kernel
theorem dX2_hasFibre_17 : decode cX2_hasFibre 17 = .ok (.ireturn, 1) := by decide +kernel
theorem dX2_isCut_0 : decode cX2_isCut 0 = .ok (.aload_n 0, 1) := by decide +kernel
theorem dX2_isCut_1 : decode cX2_isCut 1 = .ok (.getfield 34, 3) := by decide +kernel
theorem dX2_isCut_4 : decode cX2_isCut 4 = .ok (.iload_n 1, 1) := by decide +kernel
theorem dX2_isCut_5 : decode cX2_isCut 5 = .ok (.ishr, 1) := by decide +kernel
theorem dX2_isCut_6 : decode cX2_isCut 6 = .ok (.iconst 1, 1) := by decide +kernel
theorem dX2_isCut_7 : decode cX2_isCut 7 = .ok (.iand, 1) := by decide +kernel
theorem dX2_isCut_8 : decode cX2_isCut 8 = .ok (.ifCond .eq 7, 3) := by decide +kernel
theorem dX2_isCut_11 : decode cX2_isCut 11 = .ok (.iconst 1, 1) := by decide +kernel
theorem dX2_isCut_12 : decode cX2_isCut 12 = .ok (.goto 4, 3) := by decide +kernel
theorem dX2_isCut_15 : decode cX2_isCut 15 = .ok (.iconst 0, 1) := by decide +kernel
theorem dX2_isCut_16 : decode cX2_isCut 16 = .ok (.ireturn, 1) := by decide +kernel
set_option maxRecDepth 20000 in
theorem ggX2_acrossFrom_X2_hasFibre : GoodIn wsX2_acrossFrom wsX2_hasFibre := goodIn_r _ [7, 8, 9, 10, 11, 12, 13, 14, 15, 16] (by decide +kernel) (by decide +kernel)
set_option maxRecDepth 20000 in
theorem gX2_acrossFrom_X2_hasFibre : GoodIn wsX2_acrossFrom (wsV RX2 37 RX2 yX2_hasFibre wsX2_hasFibre) := goodIn_app (goodIn_of _ (by decide +kernel)) ggX2_acrossFrom_X2_hasFibre
theorem dX2_acrossFrom_0 : decode cX2_acrossFrom 0 = .ok (.aload_n 0, 1) := by decide +kernel
theorem dX2_acrossFrom_1 : decode cX2_acrossFrom 1 = .ok (.iload_n 2, 1) := by decide +kernel
theorem dX2_acrossFrom_2 : decode cX2_acrossFrom 2 = .ok (.invokevirtual 37, 3) := by decide +kernel
theorem dX2_acrossFrom_5 : decode cX2_acrossFrom 5 = .ok (.ifCond .ne 5, 3) := by decide +kernel
theorem dX2_acrossFrom_8 : decode cX2_acrossFrom 8 = .ok (.iconst (-1), 1) := by decide +kernel
theorem dX2_acrossFrom_9 : decode cX2_acrossFrom 9 = .ok (.ireturn, 1) := by decide +kernel
theorem dX2_acrossFrom_10 : decode cX2_acrossFrom 10 = .ok (.aload_n 0, 1) := by decide +kernel
theorem dX2_acrossFrom_11 : decode cX2_acrossFrom 11 = .ok (.getfield 18, 3) := by decide +kernel
theorem dX2_acrossFrom_14 : decode cX2_acrossFrom 14 = .ok (.iload_n 2, 1) := by decide +kernel
theorem dX2_acrossFrom_15 : decode cX2_acrossFrom 15 = .ok (.iaload, 1) := by decide +kernel
theorem dX2_acrossFrom_16 : decode cX2_acrossFrom 16 = .ok (.iload_n 1, 1) := by decide +kernel
theorem dX2_acrossFrom_17 : decode cX2_acrossFrom 17 = .ok (.if_icmp .ne 10, 3) := by decide +kernel
theorem dX2_acrossFrom_20 : decode cX2_acrossFrom 20 = .ok (.aload_n 0, 1) := by decide +kernel
theorem dX2_acrossFrom_21 : decode cX2_acrossFrom 21 = .ok (.getfield 22, 3) := by decide +kernel
theorem dX2_acrossFrom_24 : decode cX2_acrossFrom 24 = .ok (.iload_n 2, 1) := by decide +kernel
theorem dX2_acrossFrom_25 : decode cX2_acrossFrom 25 = .ok (.iaload, 1) := by decide +kernel
theorem dX2_acrossFrom_26 : decode cX2_acrossFrom 26 = .ok (.ireturn, 1) := by decide +kernel
theorem dX2_acrossFrom_27 : decode cX2_acrossFrom 27 = .ok (.aload_n 0, 1) := by decide +kernel
theorem dX2_acrossFrom_28 : decode cX2_acrossFrom 28 = .ok (.getfield 22, 3) := by decide +kernel
theorem dX2_acrossFrom_31 : decode cX2_acrossFrom 31 = .ok (.iload_n 2, 1) := by decide +kernel
theorem dX2_acrossFrom_32 : decode cX2_acrossFrom 32 = .ok (.iaload, 1) := by decide +kernel
theorem dX2_acrossFrom_33 : decode cX2_acrossFrom 33 = .ok (.iload_n 1, 1) := by decide +kernel
theorem dX2_acrossFrom_34 : decode cX2_acrossFrom 34 = .ok (.if_icmp .ne 12, 3) := by decide +kernel
theorem dX2_acrossFrom_37 : decode cX2_acrossFrom 37 = .ok (.aload_n 0, 1) := by decide +kernel
theorem dX2_acrossFrom_38 : decode cX2_acrossFrom 38 = .ok (.getfield 18, 3) := by decide +kernel
theorem dX2_acrossFrom_41 : decode cX2_acrossFrom 41 = .ok (.iload_n 2, 1) := by decide +kernel
theorem dX2_acrossFrom_42 : decode cX2_acrossFrom 42 = .ok (.iaload, 1) := by decide +kernel
theorem dX2_acrossFrom_43 : decode cX2_acrossFrom 43 = .ok (.goto 4, 3) := by decide +kernel
theorem dX2_acrossFrom_46 : decode cX2_acrossFrom 46 = .ok (.iconst (-1), 1) := by decide +kernel
theorem dX2_acrossFrom_47 : decode cX2_acrossFrom 47 = .ok (.ireturn, 1) := by decide +kernel
set_option maxRecDepth 20000 in
theorem ggX2_lengthOf_X2_hasFibre : GoodIn wsX2_lengthOf wsX2_hasFibre := goodIn_r _ [6, 7, 8, 9, 10, 11, 12, 13, 14, 15] (by decide +kernel) (by decide +kernel)
set_option maxRecDepth 20000 in
theorem gX2_lengthOf_X2_hasFibre : GoodIn wsX2_lengthOf (wsV RX2 37 RX2 yX2_hasFibre wsX2_hasFibre) := goodIn_app (goodIn_of _ (by decide +kernel)) ggX2_lengthOf_X2_hasFibre
theorem dX2_lengthOf_0 : decode cX2_lengthOf 0 = .ok (.aload_n 0, 1) := by decide +kernel
theorem dX2_lengthOf_1 : decode cX2_lengthOf 1 = .ok (.iload_n 1, 1) := by decide +kernel
theorem dX2_lengthOf_2 : decode cX2_lengthOf 2 = .ok (.invokevirtual 37, 3) := by decide +kernel
theorem dX2_lengthOf_5 : decode cX2_lengthOf 5 = .ok (.ifCond .eq 12, 3) := by decide +kernel
theorem dX2_lengthOf_8 : decode cX2_lengthOf 8 = .ok (.aload_n 0, 1) := by decide +kernel
theorem dX2_lengthOf_9 : decode cX2_lengthOf 9 = .ok (.getfield 25, 3) := by decide +kernel
theorem dX2_lengthOf_12 : decode cX2_lengthOf 12 = .ok (.iload_n 1, 1) := by decide +kernel
theorem dX2_lengthOf_13 : decode cX2_lengthOf 13 = .ok (.iaload, 1) := by decide +kernel
theorem dX2_lengthOf_14 : decode cX2_lengthOf 14 = .ok (.goto 4, 3) := by decide +kernel
theorem dX2_lengthOf_17 : decode cX2_lengthOf 17 = .ok (.iconst 0, 1) := by decide +kernel
theorem dX2_lengthOf_18 : decode cX2_lengthOf 18 = .ok (.ireturn, 1) := by decide +kernel
theorem dX3_init_0 : decode cX3_init 0 = .ok (.aload_n 0, 1) := by decide +kernel
theorem dX3_init_1 : decode cX3_init 1 = .ok (.invokespecial 1, 3) := by decide +kernel
theorem dX3_init_4 : decode cX3_init 4 = .ok (.return_, 1) := by decide +kernel
theorem dX3_start_0 : decode cX3_start 0 = .ok (.aload_n 0, 1) := by decide +kernel
theorem dX3_start_1 : decode cX3_start 1 = .ok (.iconst 0, 1) := by decide +kernel
theorem dX3_start_2 : decode cX3_start 2 = .ok (.putfield 7, 3) := by decide +kernel
theorem dX3_start_5 : decode cX3_start 5 = .ok (.aload_n 0, 1) := by decide +kernel
theorem dX3_start_6 : decode cX3_start 6 = .ok (.iload_n 1, 1) := by decide +kernel
theorem dX3_start_7 : decode cX3_start 7 = .ok (.putfield 13, 3) := by decide +kernel
theorem dX3_start_10 : decode cX3_start 10 = .ok (.aload_n 0, 1) := by decide +kernel
theorem dX3_start_11 : decode cX3_start 11 = .ok (.iload_n 2, 1) := by decide +kernel
theorem dX3_start_12 : decode cX3_start 12 = .ok (.putfield 16, 3) := by decide +kernel
theorem dX3_start_15 : decode cX3_start 15 = .ok (.aload_n 0, 1) := by decide +kernel
theorem dX3_start_16 : decode cX3_start 16 = .ok (.iconst 0, 1) := by decide +kernel
theorem dX3_start_17 : decode cX3_start 17 = .ok (.putfield 19, 3) := by decide +kernel
theorem dX3_start_20 : decode cX3_start 20 = .ok (.aload_n 0, 1) := by decide +kernel
theorem dX3_start_21 : decode cX3_start 21 = .ok (.lconst 0, 1) := by decide +kernel
theorem dX3_start_22 : decode cX3_start 22 = .ok (.putfield 22, 3) := by decide +kernel
theorem dX3_start_25 : decode cX3_start 25 = .ok (.return_, 1) := by decide +kernel
theorem dX3_append_0 : decode cX3_append 0 = .ok (.aload_n 0, 1) := by decide +kernel
theorem dX3_append_1 : decode cX3_append 1 = .ok (.aload_n 0, 1) := by decide +kernel
theorem dX3_append_2 : decode cX3_append 2 = .ok (.getfield 22, 3) := by decide +kernel
theorem dX3_append_5 : decode cX3_append 5 = .ok (.bipush 8, 2) := by decide +kernel
theorem dX3_append_7 : decode cX3_append 7 = .ok (.lshl, 1) := by decide +kernel
theorem dX3_append_8 : decode cX3_append 8 = .ok (.bipush 10, 2) := by decide +kernel
theorem dX3_append_10 : decode cX3_append 10 = .ok (.iload_n 1, 1) := by decide +kernel
theorem dX3_append_11 : decode cX3_append 11 = .ok (.imul, 1) := by decide +kernel
theorem dX3_append_12 : decode cX3_append 12 = .ok (.iload_n 2, 1) := by decide +kernel
theorem dX3_append_13 : decode cX3_append 13 = .ok (.iadd, 1) := by decide +kernel
theorem dX3_append_14 : decode cX3_append 14 = .ok (.i2l, 1) := by decide +kernel
theorem dX3_append_15 : decode cX3_append 15 = .ok (.lor, 1) := by decide +kernel
theorem dX3_append_16 : decode cX3_append 16 = .ok (.putfield 22, 3) := by decide +kernel
theorem dX3_append_19 : decode cX3_append 19 = .ok (.aload_n 0, 1) := by decide +kernel
theorem dX3_append_20 : decode cX3_append 20 = .ok (.dup, 1) := by decide +kernel
theorem dX3_append_21 : decode cX3_append 21 = .ok (.getfield 19, 3) := by decide +kernel
theorem dX3_append_24 : decode cX3_append 24 = .ok (.iconst 1, 1) := by decide +kernel
theorem dX3_append_25 : decode cX3_append 25 = .ok (.iload_n 1, 1) := by decide +kernel
theorem dX3_append_26 : decode cX3_append 26 = .ok (.ishl, 1) := by decide +kernel
theorem dX3_append_27 : decode cX3_append 27 = .ok (.ior, 1) := by decide +kernel
theorem dX3_append_28 : decode cX3_append 28 = .ok (.putfield 19, 3) := by decide +kernel
theorem dX3_append_31 : decode cX3_append 31 = .ok (.aload_n 0, 1) := by decide +kernel
theorem dX3_append_32 : decode cX3_append 32 = .ok (.dup, 1) := by decide +kernel
theorem dX3_append_33 : decode cX3_append 33 = .ok (.getfield 7, 3) := by decide +kernel
theorem dX3_append_36 : decode cX3_append 36 = .ok (.iconst 1, 1) := by decide +kernel
theorem dX3_append_37 : decode cX3_append 37 = .ok (.iadd, 1) := by decide +kernel
theorem dX3_append_38 : decode cX3_append 38 = .ok (.putfield 7, 3) := by decide +kernel
theorem dX3_append_41 : decode cX3_append 41 = .ok (.return_, 1) := by decide +kernel
theorem dX3_become_0 : decode cX3_become 0 = .ok (.aload_n 0, 1) := by decide +kernel
theorem dX3_become_1 : decode cX3_become 1 = .ok (.aload_n 1, 1) := by decide +kernel
theorem dX3_become_2 : decode cX3_become 2 = .ok (.getfield 7, 3) := by decide +kernel
theorem dX3_become_5 : decode cX3_become 5 = .ok (.putfield 7, 3) := by decide +kernel
theorem dX3_become_8 : decode cX3_become 8 = .ok (.aload_n 0, 1) := by decide +kernel
theorem dX3_become_9 : decode cX3_become 9 = .ok (.aload_n 1, 1) := by decide +kernel
theorem dX3_become_10 : decode cX3_become 10 = .ok (.getfield 13, 3) := by decide +kernel
theorem dX3_become_13 : decode cX3_become 13 = .ok (.putfield 13, 3) := by decide +kernel
theorem dX3_become_16 : decode cX3_become 16 = .ok (.aload_n 0, 1) := by decide +kernel
theorem dX3_become_17 : decode cX3_become 17 = .ok (.aload_n 1, 1) := by decide +kernel
theorem dX3_become_18 : decode cX3_become 18 = .ok (.getfield 16, 3) := by decide +kernel
theorem dX3_become_21 : decode cX3_become 21 = .ok (.putfield 16, 3) := by decide +kernel
theorem dX3_become_24 : decode cX3_become 24 = .ok (.aload_n 0, 1) := by decide +kernel
theorem dX3_become_25 : decode cX3_become 25 = .ok (.aload_n 1, 1) := by decide +kernel
theorem dX3_become_26 : decode cX3_become 26 = .ok (.getfield 19, 3) := by decide +kernel
theorem dX3_become_29 : decode cX3_become 29 = .ok (.putfield 19, 3) := by decide +kernel
theorem dX3_become_32 : decode cX3_become 32 = .ok (.aload_n 0, 1) := by decide +kernel
theorem dX3_become_33 : decode cX3_become 33 = .ok (.aload_n 1, 1) := by decide +kernel
theorem dX3_become_34 : decode cX3_become 34 = .ok (.getfield 22, 3) := by decide +kernel
theorem dX3_become_37 : decode cX3_become 37 = .ok (.putfield 22, 3) := by decide +kernel
theorem dX3_become_40 : decode cX3_become 40 = .ok (.return_, 1) := by decide +kernel
theorem dX3_channelAt_0 : decode cX3_channelAt 0 = .ok (.aload_n 0, 1) := by decide +kernel
theorem dX3_channelAt_1 : decode cX3_channelAt 1 = .ok (.getfield 22, 3) := by decide +kernel
theorem dX3_channelAt_4 : decode cX3_channelAt 4 = .ok (.bipush 8, 2) := by decide +kernel
theorem dX3_channelAt_6 : decode cX3_channelAt 6 = .ok (.aload_n 0, 1) := by decide +kernel
theorem dX3_channelAt_7 : decode cX3_channelAt 7 = .ok (.getfield 7, 3) := by decide +kernel
theorem dX3_channelAt_10 : decode cX3_channelAt 10 = .ok (.iconst 1, 1) := by decide +kernel
theorem dX3_channelAt_11 : decode cX3_channelAt 11 = .ok (.isub, 1) := by decide +kernel
theorem dX3_channelAt_12 : decode cX3_channelAt 12 = .ok (.iload_n 1, 1) := by decide +kernel
theorem dX3_channelAt_13 : decode cX3_channelAt 13 = .ok (.isub, 1) := by decide +kernel
theorem dX3_channelAt_14 : decode cX3_channelAt 14 = .ok (.imul, 1) := by decide +kernel
theorem dX3_channelAt_15 : decode cX3_channelAt 15 = .ok (.lshr, 1) := by decide +kernel
theorem dX3_channelAt_16 : decode cX3_channelAt 16 = .ok (.l2i, 1) := by decide +kernel
theorem dX3_channelAt_17 : decode cX3_channelAt 17 = .ok (.sipush 255, 3) := by decide +kernel
theorem dX3_channelAt_20 : decode cX3_channelAt 20 = .ok (.iand, 1) := by decide +kernel
theorem dX3_channelAt_21 : decode cX3_channelAt 21 = .ok (.ireturn, 1) := by decide +kernel
set_option maxRecDepth 20000 in
theorem ggX3_firstWavelength_X3_channelAt : GoodIn wsX3_firstWavelength wsX3_channelAt := goodIn_r _ [5, 6, 7, 8, 9, 10, 11, 12] (by decide +kernel) (by decide +kernel)
set_option maxRecDepth 20000 in
theorem gX3_firstWavelength_X3_channelAt : GoodIn wsX3_firstWavelength (wsV RX3 26 RX3 yX3_channelAt wsX3_channelAt) := goodIn_app (goodIn_of _ (by decide +kernel)) ggX3_firstWavelength_X3_channelAt
theorem dX3_firstWavelength_0 : decode cX3_firstWavelength 0 = .ok (.aload_n 0, 1) := by decide +kernel
theorem dX3_firstWavelength_1 : decode cX3_firstWavelength 1 = .ok (.iconst 0, 1) := by decide +kernel
theorem dX3_firstWavelength_2 : decode cX3_firstWavelength 2 = .ok (.invokevirtual 26, 3) := by decide +kernel
theorem dX3_firstWavelength_5 : decode cX3_firstWavelength 5 = .ok (.bipush 10, 2) := by decide +kernel
theorem dX3_firstWavelength_7 : decode cX3_firstWavelength 7 = .ok (.irem, 1) := by decide +kernel
theorem dX3_firstWavelength_8 : decode cX3_firstWavelength 8 = .ok (.ireturn, 1) := by decide +kernel
theorem dX3_uses_0 : decode cX3_uses 0 = .ok (.aload_n 0, 1) := by decide +kernel
theorem dX3_uses_1 : decode cX3_uses 1 = .ok (.getfield 19, 3) := by decide +kernel
theorem dX3_uses_4 : decode cX3_uses 4 = .ok (.iload_n 1, 1) := by decide +kernel
theorem dX3_uses_5 : decode cX3_uses 5 = .ok (.ishr, 1) := by decide +kernel
theorem dX3_uses_6 : decode cX3_uses 6 = .ok (.iconst 1, 1) := by decide +kernel
theorem dX3_uses_7 : decode cX3_uses 7 = .ok (.iand, 1) := by decide +kernel
theorem dX3_uses_8 : decode cX3_uses 8 = .ok (.ifCond .eq 7, 3) := by decide +kernel
theorem dX3_uses_11 : decode cX3_uses 11 = .ok (.iconst 1, 1) := by decide +kernel
theorem dX3_uses_12 : decode cX3_uses 12 = .ok (.goto 4, 3) := by decide +kernel
theorem dX3_uses_15 : decode cX3_uses 15 = .ok (.iconst 0, 1) := by decide +kernel
theorem dX3_uses_16 : decode cX3_uses 16 = .ok (.ireturn, 1) := by decide +kernel
set_option maxRecDepth 20000 in
theorem ggX3_wavelengthsOn_X3_uses : GoodIn wsX3_wavelengthsOn wsX3_uses := goodIn_r _ [6, 7, 13, 14, 15, 16, 17] (by decide +kernel) (by decide +kernel)
set_option maxRecDepth 20000 in
theorem gX3_wavelengthsOn_X3_uses : GoodIn wsX3_wavelengthsOn (wsV RX3 30 RX3 yX3_uses wsX3_uses) := goodIn_app (goodIn_of _ (by decide +kernel)) ggX3_wavelengthsOn_X3_uses
set_option maxRecDepth 20000 in
theorem ggX3_wavelengthsOn_X3_channelAt : GoodIn wsX3_wavelengthsOn wsX3_channelAt := goodIn_r _ [11, 12, 1, 13, 14, 15, 16, 17] (by decide +kernel) (by decide +kernel)
set_option maxRecDepth 20000 in
theorem gX3_wavelengthsOn_X3_channelAt : GoodIn wsX3_wavelengthsOn (wsV RX3 26 RX3 yX3_channelAt wsX3_channelAt) := goodIn_app (goodIn_of _ (by decide +kernel)) ggX3_wavelengthsOn_X3_channelAt
theorem dX3_wavelengthsOn_0 : decode cX3_wavelengthsOn 0 = .ok (.aload_n 0, 1) := by decide +kernel
theorem dX3_wavelengthsOn_1 : decode cX3_wavelengthsOn 1 = .ok (.iload_n 1, 1) := by decide +kernel
theorem dX3_wavelengthsOn_2 : decode cX3_wavelengthsOn 2 = .ok (.invokevirtual 30, 3) := by decide +kernel
theorem dX3_wavelengthsOn_5 : decode cX3_wavelengthsOn 5 = .ok (.ifCond .ne 5, 3) := by decide +kernel
theorem dX3_wavelengthsOn_8 : decode cX3_wavelengthsOn 8 = .ok (.iconst 0, 1) := by decide +kernel
theorem dX3_wavelengthsOn_9 : decode cX3_wavelengthsOn 9 = .ok (.ireturn, 1) := by decide +kernel
theorem dX3_wavelengthsOn_10 : decode cX3_wavelengthsOn 10 = .ok (.iconst 0, 1) := by decide +kernel
theorem dX3_wavelengthsOn_11 : decode cX3_wavelengthsOn 11 = .ok (.istore_n 2, 1) := by decide +kernel
theorem dX3_wavelengthsOn_12 : decode cX3_wavelengthsOn 12 = .ok (.iconst 0, 1) := by decide +kernel
theorem dX3_wavelengthsOn_13 : decode cX3_wavelengthsOn 13 = .ok (.istore_n 3, 1) := by decide +kernel
theorem dX3_wavelengthsOn_14 : decode cX3_wavelengthsOn 14 = .ok (.iload_n 3, 1) := by decide +kernel
theorem dX3_wavelengthsOn_15 : decode cX3_wavelengthsOn 15 = .ok (.aload_n 0, 1) := by decide +kernel
theorem dX3_wavelengthsOn_16 : decode cX3_wavelengthsOn 16 = .ok (.getfield 7, 3) := by decide +kernel
theorem dX3_wavelengthsOn_19 : decode cX3_wavelengthsOn 19 = .ok (.if_icmp .ge 35, 3) := by decide +kernel
theorem dX3_wavelengthsOn_22 : decode cX3_wavelengthsOn 22 = .ok (.aload_n 0, 1) := by decide +kernel
theorem dX3_wavelengthsOn_23 : decode cX3_wavelengthsOn 23 = .ok (.iload_n 3, 1) := by decide +kernel
theorem dX3_wavelengthsOn_24 : decode cX3_wavelengthsOn 24 = .ok (.invokevirtual 26, 3) := by decide +kernel
theorem dX3_wavelengthsOn_27 : decode cX3_wavelengthsOn 27 = .ok (.istore 4, 2) := by decide +kernel
theorem dX3_wavelengthsOn_29 : decode cX3_wavelengthsOn 29 = .ok (.iload 4, 2) := by decide +kernel
theorem dX3_wavelengthsOn_31 : decode cX3_wavelengthsOn 31 = .ok (.bipush 10, 2) := by decide +kernel
theorem dX3_wavelengthsOn_33 : decode cX3_wavelengthsOn 33 = .ok (.idiv, 1) := by decide +kernel
theorem dX3_wavelengthsOn_34 : decode cX3_wavelengthsOn 34 = .ok (.iload_n 1, 1) := by decide +kernel
theorem dX3_wavelengthsOn_35 : decode cX3_wavelengthsOn 35 = .ok (.if_icmp .ne 13, 3) := by decide +kernel
theorem dX3_wavelengthsOn_38 : decode cX3_wavelengthsOn 38 = .ok (.iload_n 2, 1) := by decide +kernel
theorem dX3_wavelengthsOn_39 : decode cX3_wavelengthsOn 39 = .ok (.iconst 1, 1) := by decide +kernel
theorem dX3_wavelengthsOn_40 : decode cX3_wavelengthsOn 40 = .ok (.iload 4, 2) := by decide +kernel
theorem dX3_wavelengthsOn_42 : decode cX3_wavelengthsOn 42 = .ok (.bipush 10, 2) := by decide +kernel
theorem dX3_wavelengthsOn_44 : decode cX3_wavelengthsOn 44 = .ok (.irem, 1) := by decide +kernel
theorem dX3_wavelengthsOn_45 : decode cX3_wavelengthsOn 45 = .ok (.ishl, 1) := by decide +kernel
theorem dX3_wavelengthsOn_46 : decode cX3_wavelengthsOn 46 = .ok (.ior, 1) := by decide +kernel
theorem dX3_wavelengthsOn_47 : decode cX3_wavelengthsOn 47 = .ok (.istore_n 2, 1) := by decide +kernel
theorem dX3_wavelengthsOn_48 : decode cX3_wavelengthsOn 48 = .ok (.iinc 3 1, 3) := by decide +kernel
theorem dX3_wavelengthsOn_51 : decode cX3_wavelengthsOn 51 = .ok (.goto (-37), 3) := by decide +kernel
theorem dX3_wavelengthsOn_54 : decode cX3_wavelengthsOn 54 = .ok (.iload_n 2, 1) := by decide +kernel
theorem dX3_wavelengthsOn_55 : decode cX3_wavelengthsOn 55 = .ok (.ireturn, 1) := by decide +kernel
set_option maxRecDepth 20000 in
theorem ggX3_shiftTo_X3_firstWavelength : GoodIn wsX3_shiftTo wsX3_firstWavelength := goodIn_r _ [7, 8, 9, 10, 6, 11, 2, 1, 12, 13, 14, 15, 16] (by decide +kernel) (by decide +kernel)
set_option maxRecDepth 20000 in
theorem gX3_shiftTo_X3_firstWavelength : GoodIn wsX3_shiftTo (wsV RX3 34 RX3 yX3_firstWavelength wsX3_firstWavelength) := goodIn_app (goodIn_of _ (by decide +kernel)) ggX3_shiftTo_X3_firstWavelength
theorem dX3_shiftTo_0 : decode cX3_shiftTo 0 = .ok (.iload_n 1, 1) := by decide +kernel
theorem dX3_shiftTo_1 : decode cX3_shiftTo 1 = .ok (.aload_n 0, 1) := by decide +kernel
theorem dX3_shiftTo_2 : decode cX3_shiftTo 2 = .ok (.invokevirtual 34, 3) := by decide +kernel
theorem dX3_shiftTo_5 : decode cX3_shiftTo 5 = .ok (.isub, 1) := by decide +kernel
theorem dX3_shiftTo_6 : decode cX3_shiftTo 6 = .ok (.i2l, 1) := by decide +kernel
theorem dX3_shiftTo_7 : decode cX3_shiftTo 7 = .ok (.lstore_n 2, 1) := by decide +kernel
theorem dX3_shiftTo_8 : decode cX3_shiftTo 8 = .ok (.iconst 0, 1) := by decide +kernel
theorem dX3_shiftTo_9 : decode cX3_shiftTo 9 = .ok (.istore 4, 2) := by decide +kernel
theorem dX3_shiftTo_11 : decode cX3_shiftTo 11 = .ok (.iload 4, 2) := by decide +kernel
theorem dX3_shiftTo_13 : decode cX3_shiftTo 13 = .ok (.aload_n 0, 1) := by decide +kernel
theorem dX3_shiftTo_14 : decode cX3_shiftTo 14 = .ok (.getfield 7, 3) := by decide +kernel
theorem dX3_shiftTo_17 : decode cX3_shiftTo 17 = .ok (.if_icmp .ge 25, 3) := by decide +kernel
theorem dX3_shiftTo_20 : decode cX3_shiftTo 20 = .ok (.aload_n 0, 1) := by decide +kernel
theorem dX3_shiftTo_21 : decode cX3_shiftTo 21 = .ok (.dup, 1) := by decide +kernel
theorem dX3_shiftTo_22 : decode cX3_shiftTo 22 = .ok (.getfield 22, 3) := by decide +kernel
theorem dX3_shiftTo_25 : decode cX3_shiftTo 25 = .ok (.lload_n 2, 1) := by decide +kernel
theorem dX3_shiftTo_26 : decode cX3_shiftTo 26 = .ok (.bipush 8, 2) := by decide +kernel
theorem dX3_shiftTo_28 : decode cX3_shiftTo 28 = .ok (.iload 4, 2) := by decide +kernel
theorem dX3_shiftTo_30 : decode cX3_shiftTo 30 = .ok (.imul, 1) := by decide +kernel
theorem dX3_shiftTo_31 : decode cX3_shiftTo 31 = .ok (.lshl, 1) := by decide +kernel
theorem dX3_shiftTo_32 : decode cX3_shiftTo 32 = .ok (.ladd, 1) := by decide +kernel
theorem dX3_shiftTo_33 : decode cX3_shiftTo 33 = .ok (.putfield 22, 3) := by decide +kernel
theorem dX3_shiftTo_36 : decode cX3_shiftTo 36 = .ok (.iinc 4 1, 3) := by decide +kernel
theorem dX3_shiftTo_39 : decode cX3_shiftTo 39 = .ok (.goto (-28), 3) := by decide +kernel
theorem dX3_shiftTo_42 : decode cX3_shiftTo 42 = .ok (.return_, 1) := by decide +kernel
theorem dX3_isAheadOf_0 : decode cX3_isAheadOf 0 = .ok (.aload_n 0, 1) := by decide +kernel
theorem dX3_isAheadOf_1 : decode cX3_isAheadOf 1 = .ok (.getfield 13, 3) := by decide +kernel
theorem dX3_isAheadOf_4 : decode cX3_isAheadOf 4 = .ok (.aload_n 1, 1) := by decide +kernel
theorem dX3_isAheadOf_5 : decode cX3_isAheadOf 5 = .ok (.getfield 13, 3) := by decide +kernel
theorem dX3_isAheadOf_8 : decode cX3_isAheadOf 8 = .ok (.if_icmp .eq 20, 3) := by decide +kernel
theorem dX3_isAheadOf_11 : decode cX3_isAheadOf 11 = .ok (.aload_n 0, 1) := by decide +kernel
theorem dX3_isAheadOf_12 : decode cX3_isAheadOf 12 = .ok (.getfield 13, 3) := by decide +kernel
theorem dX3_isAheadOf_15 : decode cX3_isAheadOf 15 = .ok (.aload_n 1, 1) := by decide +kernel
theorem dX3_isAheadOf_16 : decode cX3_isAheadOf 16 = .ok (.getfield 13, 3) := by decide +kernel
theorem dX3_isAheadOf_19 : decode cX3_isAheadOf 19 = .ok (.if_icmp .ge 7, 3) := by decide +kernel
theorem dX3_isAheadOf_22 : decode cX3_isAheadOf 22 = .ok (.iconst 1, 1) := by decide +kernel
theorem dX3_isAheadOf_23 : decode cX3_isAheadOf 23 = .ok (.goto 4, 3) := by decide +kernel
theorem dX3_isAheadOf_26 : decode cX3_isAheadOf 26 = .ok (.iconst 0, 1) := by decide +kernel
theorem dX3_isAheadOf_27 : decode cX3_isAheadOf 27 = .ok (.ireturn, 1) := by decide +kernel
theorem dX3_isAheadOf_28 : decode cX3_isAheadOf 28 = .ok (.aload_n 0, 1) := by decide +kernel
theorem dX3_isAheadOf_29 : decode cX3_isAheadOf 29 = .ok (.getfield 16, 3) := by decide +kernel
theorem dX3_isAheadOf_32 : decode cX3_isAheadOf 32 = .ok (.aload_n 1, 1) := by decide +kernel
theorem dX3_isAheadOf_33 : decode cX3_isAheadOf 33 = .ok (.getfield 16, 3) := by decide +kernel
theorem dX3_isAheadOf_36 : decode cX3_isAheadOf 36 = .ok (.if_icmp .eq 20, 3) := by decide +kernel
theorem dX3_isAheadOf_39 : decode cX3_isAheadOf 39 = .ok (.aload_n 0, 1) := by decide +kernel
theorem dX3_isAheadOf_40 : decode cX3_isAheadOf 40 = .ok (.getfield 16, 3) := by decide +kernel
theorem dX3_isAheadOf_43 : decode cX3_isAheadOf 43 = .ok (.aload_n 1, 1) := by decide +kernel
theorem dX3_isAheadOf_44 : decode cX3_isAheadOf 44 = .ok (.getfield 16, 3) := by decide +kernel
theorem dX3_isAheadOf_47 : decode cX3_isAheadOf 47 = .ok (.if_icmp .ge 7, 3) := by decide +kernel
theorem dX3_isAheadOf_50 : decode cX3_isAheadOf 50 = .ok (.iconst 1, 1) := by decide +kernel
theorem dX3_isAheadOf_51 : decode cX3_isAheadOf 51 = .ok (.goto 4, 3) := by decide +kernel
theorem dX3_isAheadOf_54 : decode cX3_isAheadOf 54 = .ok (.iconst 0, 1) := by decide +kernel
theorem dX3_isAheadOf_55 : decode cX3_isAheadOf 55 = .ok (.ireturn, 1) := by decide +kernel
theorem dX3_isAheadOf_56 : decode cX3_isAheadOf 56 = .ok (.aload_n 0, 1) := by decide +kernel
theorem dX3_isAheadOf_57 : decode cX3_isAheadOf 57 = .ok (.getfield 7, 3) := by decide +kernel
theorem dX3_isAheadOf_60 : decode cX3_isAheadOf 60 = .ok (.aload_n 1, 1) := by decide +kernel
theorem dX3_isAheadOf_61 : decode cX3_isAheadOf 61 = .ok (.getfield 7, 3) := by decide +kernel
theorem dX3_isAheadOf_64 : decode cX3_isAheadOf 64 = .ok (.if_icmp .eq 20, 3) := by decide +kernel
theorem dX3_isAheadOf_67 : decode cX3_isAheadOf 67 = .ok (.aload_n 0, 1) := by decide +kernel
theorem dX3_isAheadOf_68 : decode cX3_isAheadOf 68 = .ok (.getfield 7, 3) := by decide +kernel
theorem dX3_isAheadOf_71 : decode cX3_isAheadOf 71 = .ok (.aload_n 1, 1) := by decide +kernel
theorem dX3_isAheadOf_72 : decode cX3_isAheadOf 72 = .ok (.getfield 7, 3) := by decide +kernel
theorem dX3_isAheadOf_75 : decode cX3_isAheadOf 75 = .ok (.if_icmp .ge 7, 3) := by decide +kernel
theorem dX3_isAheadOf_78 : decode cX3_isAheadOf 78 = .ok (.iconst 1, 1) := by decide +kernel
theorem dX3_isAheadOf_79 : decode cX3_isAheadOf 79 = .ok (.goto 4, 3) := by decide +kernel
theorem dX3_isAheadOf_82 : decode cX3_isAheadOf 82 = .ok (.iconst 0, 1) := by decide +kernel
theorem dX3_isAheadOf_83 : decode cX3_isAheadOf 83 = .ok (.ireturn, 1) := by decide +kernel
theorem dX3_isAheadOf_84 : decode cX3_isAheadOf 84 = .ok (.aload_n 0, 1) := by decide +kernel
theorem dX3_isAheadOf_85 : decode cX3_isAheadOf 85 = .ok (.getfield 22, 3) := by decide +kernel
theorem dX3_isAheadOf_88 : decode cX3_isAheadOf 88 = .ok (.aload_n 1, 1) := by decide +kernel
theorem dX3_isAheadOf_89 : decode cX3_isAheadOf 89 = .ok (.getfield 22, 3) := by decide +kernel
theorem dX3_isAheadOf_92 : decode cX3_isAheadOf 92 = .ok (.lcmp, 1) := by decide +kernel
theorem dX3_isAheadOf_93 : decode cX3_isAheadOf 93 = .ok (.ifCond .ge 7, 3) := by decide +kernel
theorem dX3_isAheadOf_96 : decode cX3_isAheadOf 96 = .ok (.iconst 1, 1) := by decide +kernel
theorem dX3_isAheadOf_97 : decode cX3_isAheadOf 97 = .ok (.goto 4, 3) := by decide +kernel
theorem dX3_isAheadOf_100 : decode cX3_isAheadOf 100 = .ok (.iconst 0, 1) := by decide +kernel
theorem dX3_isAheadOf_101 : decode cX3_isAheadOf 101 = .ok (.ireturn, 1) := by decide +kernel
set_option maxRecDepth 20000 in
theorem ggX4_init_X3_init : GoodIn wsX4_init wsX3_init := goodIn_r _ [18, 19, 2, 3] (by decide +kernel) (by decide +kernel)
set_option maxRecDepth 20000 in
theorem gX4_init_X3_init_n40 : GoodIn wsX4_init (wsX3_init) := ggX4_init_X3_init
theorem dX4_init_0 : decode cX4_init 0 = .ok (.aload_n 0, 1) := by decide +kernel
theorem dX4_init_1 : decode cX4_init 1 = .ok (.invokespecial 3, 3) := by decide +kernel
theorem dX4_init_4 : decode cX4_init 4 = .ok (.aload_n 0, 1) := by decide +kernel
theorem dX4_init_5 : decode cX4_init 5 = .ok (.bipush 14, 2) := by decide +kernel
theorem dX4_init_7 : decode cX4_init 7 = .ok (.newarray .int, 2) := by decide +kernel
theorem dX4_init_9 : decode cX4_init 9 = .ok (.putfield 9, 3) := by decide +kernel
theorem dX4_init_12 : decode cX4_init 12 = .ok (.aload_n 0, 1) := by decide +kernel
theorem dX4_init_13 : decode cX4_init 13 = .ok (.bipush 7, 2) := by decide +kernel
theorem dX4_init_15 : decode cX4_init 15 = .ok (.newarray .int, 2) := by decide +kernel
theorem dX4_init_17 : decode cX4_init 17 = .ok (.putfield 15, 3) := by decide +kernel
theorem dX4_init_20 : decode cX4_init 20 = .ok (.aload_n 0, 1) := by decide +kernel
theorem dX4_init_21 : decode cX4_init 21 = .ok (.bipush 7, 2) := by decide +kernel
theorem dX4_init_23 : decode cX4_init 23 = .ok (.newarray .int, 2) := by decide +kernel
theorem dX4_init_25 : decode cX4_init 25 = .ok (.putfield 18, 3) := by decide +kernel
theorem dX4_init_28 : decode cX4_init 28 = .ok (.aload_n 0, 1) := by decide +kernel
theorem dX4_init_29 : decode cX4_init 29 = .ok (.bipush 7, 2) := by decide +kernel
theorem dX4_init_31 : decode cX4_init 31 = .ok (.newarray .boolean, 2) := by decide +kernel
theorem dX4_init_33 : decode cX4_init 33 = .ok (.putfield 21, 3) := by decide +kernel
theorem dX4_init_36 : decode cX4_init 36 = .ok (.aload_n 0, 1) := by decide +kernel
theorem dX4_init_37 : decode cX4_init 37 = .ok (.bipush 7, 2) := by decide +kernel
theorem dX4_init_39 : decode cX4_init 39 = .ok (.bipush 7, 2) := by decide +kernel
theorem dX4_init_41 : decode cX4_init 41 = .ok (.multianewarray 25 2, 4) := by decide +kernel
theorem dX4_init_45 : decode cX4_init 45 = .ok (.putfield 27, 3) := by decide +kernel
theorem dX4_init_48 : decode cX4_init 48 = .ok (.aload_n 0, 1) := by decide +kernel
theorem dX4_init_49 : decode cX4_init 49 = .ok (.sipush 162, 3) := by decide +kernel
theorem dX4_init_52 : decode cX4_init 52 = .ok (.anewarray 30, 3) := by decide +kernel
theorem dX4_init_55 : decode cX4_init 55 = .ok (.putfield 32, 3) := by decide +kernel
theorem dX4_init_58 : decode cX4_init 58 = .ok (.aload_n 0, 1) := by decide +kernel
theorem dX4_init_59 : decode cX4_init 59 = .ok (.aload_n 1, 1) := by decide +kernel
theorem dX4_init_60 : decode cX4_init 60 = .ok (.putfield 36, 3) := by decide +kernel
theorem dX4_init_63 : decode cX4_init 63 = .ok (.iconst 0, 1) := by decide +kernel
theorem dX4_init_64 : decode cX4_init 64 = .ok (.istore_n 2, 1) := by decide +kernel
theorem dX4_init_65 : decode cX4_init 65 = .ok (.iload_n 2, 1) := by decide +kernel
theorem dX4_init_66 : decode cX4_init 66 = .ok (.sipush 162, 3) := by decide +kernel
theorem dX4_init_69 : decode cX4_init 69 = .ok (.if_icmp .ge 22, 3) := by decide +kernel
theorem dX4_init_72 : decode cX4_init 72 = .ok (.aload_n 0, 1) := by decide +kernel
theorem dX4_init_73 : decode cX4_init 73 = .ok (.getfield 32, 3) := by decide +kernel
theorem dX4_init_76 : decode cX4_init 76 = .ok (.iload_n 2, 1) := by decide +kernel
theorem dX4_init_77 : decode cX4_init 77 = .ok (.new 30, 3) := by decide +kernel
theorem dX4_init_80 : decode cX4_init 80 = .ok (.dup, 1) := by decide +kernel
theorem dX4_init_81 : decode cX4_init 81 = .ok (.invokespecial 40, 3) := by decide +kernel
theorem dX4_init_84 : decode cX4_init 84 = .ok (.aastore, 1) := by decide +kernel
theorem dX4_init_85 : decode cX4_init 85 = .ok (.iinc 2 1, 3) := by decide +kernel
theorem dX4_init_88 : decode cX4_init 88 = .ok (.goto (-23), 3) := by decide +kernel
theorem dX4_init_91 : decode cX4_init 91 = .ok (.return_, 1) := by decide +kernel
set_option maxRecDepth 20000 in
theorem ggX4_findFirst_X4_aim : GoodIn wsX4_findFirst wsX4_aim := goodIn_r _ [7, 8, 9, 10, 11, 82, 83, 84, 85, 86, 87, 88, 89, 90, 91, 92, 93, 94] (by decide +kernel) (by decide +kernel)
set_option maxRecDepth 20000 in
theorem gX4_findFirst_X4_aim : GoodIn wsX4_findFirst (wsV RX4 47 RX4 yX4_aim wsX4_aim) := goodIn_app (goodIn_of _ (by decide +kernel)) ggX4_findFirst_X4_aim
set_option maxRecDepth 20000 in
theorem ggX4_findFirst_X4_walk : GoodIn wsX4_findFirst wsX4_walk := goodIn_r _ [15, 8, 10, 1, 16, 9, 17, 18, 19, 20, 21, 22, 6, 23, 11, 24, 25, 26, 27, 28, 29, 30, 31, 32, 33, 34, 35, 36, 37, 38, 39, 40, 41, 42, 43, 44, 45, 46, 47, 48, 49, 50, 51, 52, 53, 54, 55, 56, 57, 58, 59, 60, 61, 62, 63, 64, 65, 66, 67, 68, 69, 70, 71, 12, 13, 14, 82, 83, 84, 85, 86, 87, 88, 89, 90, 91, 92, 93, 94, 103, 104, 105, 106, 107, 95, 96, 97, 98, 99, 100, 101, 102] (by decide +kernel) (by decide +kernel)
set_option maxRecDepth 20000 in
theorem gX4_findFirst_X4_walk : GoodIn wsX4_findFirst (wsV RX4 51 RX4 yX4_walk wsX4_walk) := goodIn_app (goodIn_of _ (by decide +kernel)) ggX4_findFirst_X4_walk
set_option maxRecDepth 20000 in
theorem ggX4_findFirst_X4_pickFirst : GoodIn wsX4_findFirst wsX4_pickFirst := goodIn_r _ [75, 76, 77, 11, 25, 78, 79, 80, 37, 81, 40, 41, 39, 43, 82, 83, 84, 85, 86, 87, 88, 89, 90, 91, 92, 93, 94, 103, 104, 105, 106, 107] (by decide +kernel) (by decide +kernel)
set_option maxRecDepth 20000 in
theorem gX4_findFirst_X4_pickFirst : GoodIn wsX4_findFirst (wsV RX4 55 RX4 yX4_pickFirst wsX4_pickFirst) := goodIn_app (goodIn_of _ (by decide +kernel)) ggX4_findFirst_X4_pickFirst
theorem dX4_findFirst_0 : decode cX4_findFirst 0 = .ok (.aload_n 0, 1) := by decide +kernel
theorem dX4_findFirst_1 : decode cX4_findFirst 1 = .ok (.iload_n 2, 1) := by decide +kernel
theorem dX4_findFirst_2 : decode cX4_findFirst 2 = .ok (.sipush 255, 3) := by decide +kernel
theorem dX4_findFirst_5 : decode cX4_findFirst 5 = .ok (.aload_n 0, 1) := by decide +kernel
theorem dX4_findFirst_6 : decode cX4_findFirst 6 = .ok (.getfield 36, 3) := by decide +kernel
theorem dX4_findFirst_9 : decode cX4_findFirst 9 = .ok (.getfield 41, 3) := by decide +kernel
theorem dX4_findFirst_12 : decode cX4_findFirst 12 = .ok (.invokevirtual 47, 3) := by decide +kernel
theorem dX4_findFirst_15 : decode cX4_findFirst 15 = .ok (.aload_n 0, 1) := by decide +kernel
theorem dX4_findFirst_16 : decode cX4_findFirst 16 = .ok (.iload_n 1, 1) := by decide +kernel
theorem dX4_findFirst_17 : decode cX4_findFirst 17 = .ok (.iconst 1, 1) := by decide +kernel
theorem dX4_findFirst_18 : decode cX4_findFirst 18 = .ok (.iload_n 1, 1) := by decide +kernel
theorem dX4_findFirst_19 : decode cX4_findFirst 19 = .ok (.ishl, 1) := by decide +kernel
theorem dX4_findFirst_20 : decode cX4_findFirst 20 = .ok (.sipush 255, 3) := by decide +kernel
theorem dX4_findFirst_23 : decode cX4_findFirst 23 = .ok (.iconst 0, 1) := by decide +kernel
theorem dX4_findFirst_24 : decode cX4_findFirst 24 = .ok (.iconst 0, 1) := by decide +kernel
theorem dX4_findFirst_25 : decode cX4_findFirst 25 = .ok (.invokevirtual 51, 3) := by decide +kernel
theorem dX4_findFirst_28 : decode cX4_findFirst 28 = .ok (.aload_n 0, 1) := by decide +kernel
theorem dX4_findFirst_29 : decode cX4_findFirst 29 = .ok (.invokevirtual 55, 3) := by decide +kernel
theorem dX4_findFirst_32 : decode cX4_findFirst 32 = .ok (.return_, 1) := by decide +kernel
set_option maxRecDepth 20000 in
theorem ggX4_findOnLowestWavelength_X4_aim : GoodIn wsX4_findOnLowestWavelength wsX4_aim := goodIn_r _ [6, 7, 8, 9, 10, 81, 82, 83, 84, 85, 86, 87, 88, 89, 90, 91, 92, 93] (by decide +kernel) (by decide +kernel)
set_option maxRecDepth 20000 in
theorem gX4_findOnLowestWavelength_X4_aim : GoodIn wsX4_findOnLowestWavelength (wsV RX4 47 RX4 yX4_aim wsX4_aim) := goodIn_app (goodIn_of _ (by decide +kernel)) ggX4_findOnLowestWavelength_X4_aim
set_option maxRecDepth 20000 in
theorem ggX4_findOnLowestWavelength_X4_walk : GoodIn wsX4_findOnLowestWavelength wsX4_walk := goodIn_r _ [14, 7, 9, 15, 16, 8, 17, 18, 19, 20, 21, 22, 5, 23, 10, 24, 25, 26, 27, 28, 29, 30, 31, 32, 33, 34, 35, 36, 37, 38, 39, 40, 41, 42, 43, 44, 45, 46, 47, 48, 49, 50, 51, 52, 53, 54, 55, 56, 57, 58, 59, 60, 61, 62, 63, 64, 65, 66, 67, 68, 69, 70, 71, 11, 12, 13, 81, 82, 83, 84, 85, 86, 87, 88, 89, 90, 91, 92, 93, 94, 95, 96, 97, 98, 99, 100, 101, 102, 103, 104, 105, 106] (by decide +kernel) (by decide +kernel)
set_option maxRecDepth 20000 in
theorem gX4_findOnLowestWavelength_X4_walk : GoodIn wsX4_findOnLowestWavelength (wsV RX4 51 RX4 yX4_walk wsX4_walk) := goodIn_app (goodIn_of _ (by decide +kernel)) ggX4_findOnLowestWavelength_X4_walk
set_option maxRecDepth 20000 in
theorem ggX4_findOnLowestWavelength_X4_pickFirst : GoodIn wsX4_findOnLowestWavelength wsX4_pickFirst := goodIn_r _ [75, 1, 76, 10, 25, 77, 78, 79, 37, 80, 40, 41, 39, 43, 81, 82, 83, 84, 85, 86, 87, 88, 89, 90, 91, 92, 93, 94, 95, 96, 97, 98] (by decide +kernel) (by decide +kernel)
set_option maxRecDepth 20000 in
theorem gX4_findOnLowestWavelength_X4_pickFirst : GoodIn wsX4_findOnLowestWavelength (wsV RX4 55 RX4 yX4_pickFirst wsX4_pickFirst) := goodIn_app (goodIn_of _ (by decide +kernel)) ggX4_findOnLowestWavelength_X4_pickFirst
theorem dX4_findOnLowestWavelength_0 : decode cX4_findOnLowestWavelength 0 = .ok (.iconst 0, 1) := by decide +kernel
theorem dX4_findOnLowestWavelength_1 : decode cX4_findOnLowestWavelength 1 = .ok (.istore_n 3, 1) := by decide +kernel
theorem dX4_findOnLowestWavelength_2 : decode cX4_findOnLowestWavelength 2 = .ok (.iload_n 3, 1) := by decide +kernel
theorem dX4_findOnLowestWavelength_3 : decode cX4_findOnLowestWavelength 3 = .ok (.bipush 8, 2) := by decide +kernel
theorem dX4_findOnLowestWavelength_5 : decode cX4_findOnLowestWavelength 5 = .ok (.if_icmp .ge 43, 3) := by decide +kernel
theorem dX4_findOnLowestWavelength_8 : decode cX4_findOnLowestWavelength 8 = .ok (.aload_n 0, 1) := by decide +kernel
theorem dX4_findOnLowestWavelength_9 : decode cX4_findOnLowestWavelength 9 = .ok (.iload_n 2, 1) := by decide +kernel
theorem dX4_findOnLowestWavelength_10 : decode cX4_findOnLowestWavelength 10 = .ok (.iconst 1, 1) := by decide +kernel
theorem dX4_findOnLowestWavelength_11 : decode cX4_findOnLowestWavelength 11 = .ok (.iload_n 3, 1) := by decide +kernel
theorem dX4_findOnLowestWavelength_12 : decode cX4_findOnLowestWavelength 12 = .ok (.ishl, 1) := by decide +kernel
theorem dX4_findOnLowestWavelength_13 : decode cX4_findOnLowestWavelength 13 = .ok (.iconst 0, 1) := by decide +kernel
theorem dX4_findOnLowestWavelength_14 : decode cX4_findOnLowestWavelength 14 = .ok (.invokevirtual 47, 3) := by decide +kernel
theorem dX4_findOnLowestWavelength_17 : decode cX4_findOnLowestWavelength 17 = .ok (.aload_n 0, 1) := by decide +kernel
theorem dX4_findOnLowestWavelength_18 : decode cX4_findOnLowestWavelength 18 = .ok (.iload_n 1, 1) := by decide +kernel
theorem dX4_findOnLowestWavelength_19 : decode cX4_findOnLowestWavelength 19 = .ok (.iconst 1, 1) := by decide +kernel
theorem dX4_findOnLowestWavelength_20 : decode cX4_findOnLowestWavelength 20 = .ok (.iload_n 1, 1) := by decide +kernel
theorem dX4_findOnLowestWavelength_21 : decode cX4_findOnLowestWavelength 21 = .ok (.ishl, 1) := by decide +kernel
theorem dX4_findOnLowestWavelength_22 : decode cX4_findOnLowestWavelength 22 = .ok (.sipush 255, 3) := by decide +kernel
theorem dX4_findOnLowestWavelength_25 : decode cX4_findOnLowestWavelength 25 = .ok (.iconst 0, 1) := by decide +kernel
theorem dX4_findOnLowestWavelength_26 : decode cX4_findOnLowestWavelength 26 = .ok (.iconst 0, 1) := by decide +kernel
theorem dX4_findOnLowestWavelength_27 : decode cX4_findOnLowestWavelength 27 = .ok (.invokevirtual 51, 3) := by decide +kernel
theorem dX4_findOnLowestWavelength_30 : decode cX4_findOnLowestWavelength 30 = .ok (.aload_n 0, 1) := by decide +kernel
theorem dX4_findOnLowestWavelength_31 : decode cX4_findOnLowestWavelength 31 = .ok (.invokevirtual 55, 3) := by decide +kernel
theorem dX4_findOnLowestWavelength_34 : decode cX4_findOnLowestWavelength 34 = .ok (.aload_n 0, 1) := by decide +kernel
theorem dX4_findOnLowestWavelength_35 : decode cX4_findOnLowestWavelength 35 = .ok (.getfield 58, 3) := by decide +kernel
theorem dX4_findOnLowestWavelength_38 : decode cX4_findOnLowestWavelength 38 = .ok (.ifnull 4, 3) := by decide +kernel
theorem dX4_findOnLowestWavelength_41 : decode cX4_findOnLowestWavelength 41 = .ok (.return_, 1) := by decide +kernel
theorem dX4_findOnLowestWavelength_42 : decode cX4_findOnLowestWavelength 42 = .ok (.iinc 3 1, 3) := by decide +kernel
theorem dX4_findOnLowestWavelength_45 : decode cX4_findOnLowestWavelength 45 = .ok (.goto (-43), 3) := by decide +kernel
theorem dX4_findOnLowestWavelength_48 : decode cX4_findOnLowestWavelength 48 = .ok (.return_, 1) := by decide +kernel
set_option maxRecDepth 20000 in
theorem ggX4_findPair_X4_aim : GoodIn wsX4_findPair wsX4_aim := goodIn_r _ [10, 11, 12, 13, 3, 86, 87, 88, 89, 90, 91, 92, 93, 94, 95, 96, 97, 98] (by decide +kernel) (by decide +kernel)
set_option maxRecDepth 20000 in
theorem gX4_findPair_X4_aim : GoodIn wsX4_findPair (wsV RX4 47 RX4 yX4_aim wsX4_aim) := goodIn_app (goodIn_of _ (by decide +kernel)) ggX4_findPair_X4_aim
set_option maxRecDepth 20000 in
theorem ggX4_findPair_X4_walk : GoodIn wsX4_findPair wsX4_walk := goodIn_r _ [17, 11, 13, 18, 19, 12, 20, 21, 22, 23, 24, 25, 9, 26, 3, 27, 4, 28, 29, 30, 31, 32, 33, 34, 35, 36, 37, 38, 39, 40, 41, 42, 43, 44, 45, 46, 47, 48, 49, 50, 51, 52, 53, 54, 55, 56, 57, 58, 59, 60, 61, 62, 63, 64, 65, 66, 67, 68, 69, 70, 71, 72, 73, 14, 15, 16, 86, 87, 88, 89, 90, 91, 92, 93, 94, 95, 96, 97, 98, 99, 100, 101, 102, 103, 104, 105, 106, 107, 108, 109, 110, 111] (by decide +kernel) (by decide +kernel)
set_option maxRecDepth 20000 in
theorem gX4_findPair_X4_walk : GoodIn wsX4_findPair (wsV RX4 51 RX4 yX4_walk wsX4_walk) := goodIn_app (goodIn_of _ (by decide +kernel)) ggX4_findPair_X4_walk
set_option maxRecDepth 20000 in
theorem ggX4_findPair_X4_offerPair : GoodIn wsX4_findPair wsX4_offerPair := goodIn_r _ [77, 1, 2, 78, 79, 80, 39, 81, 42, 43, 41, 45, 82, 83, 9, 84, 85, 86, 87, 88, 89, 90, 91, 92, 93, 94, 95, 96, 97, 98, 99, 100, 101, 102, 103] (by decide +kernel) (by decide +kernel)
set_option maxRecDepth 20000 in
theorem gX4_findPair_X4_offerPair : GoodIn wsX4_findPair (wsV RX4 71 RX4 yX4_offerPair wsX4_offerPair) := goodIn_app (goodIn_of _ (by decide +kernel)) ggX4_findPair_X4_offerPair
theorem dX4_findPair_0 : decode cX4_findPair 0 = .ok (.aload_n 0, 1) := by decide +kernel
theorem dX4_findPair_1 : decode cX4_findPair 1 = .ok (.iload_n 2, 1) := by decide +kernel
theorem dX4_findPair_2 : decode cX4_findPair 2 = .ok (.sipush 255, 3) := by decide +kernel
theorem dX4_findPair_5 : decode cX4_findPair 5 = .ok (.iconst 0, 1) := by decide +kernel
theorem dX4_findPair_6 : decode cX4_findPair 6 = .ok (.invokevirtual 47, 3) := by decide +kernel
theorem dX4_findPair_9 : decode cX4_findPair 9 = .ok (.aload_n 0, 1) := by decide +kernel
theorem dX4_findPair_10 : decode cX4_findPair 10 = .ok (.iload_n 1, 1) := by decide +kernel
theorem dX4_findPair_11 : decode cX4_findPair 11 = .ok (.iconst 1, 1) := by decide +kernel
theorem dX4_findPair_12 : decode cX4_findPair 12 = .ok (.iload_n 1, 1) := by decide +kernel
theorem dX4_findPair_13 : decode cX4_findPair 13 = .ok (.ishl, 1) := by decide +kernel
theorem dX4_findPair_14 : decode cX4_findPair 14 = .ok (.sipush 255, 3) := by decide +kernel
theorem dX4_findPair_17 : decode cX4_findPair 17 = .ok (.iconst 0, 1) := by decide +kernel
theorem dX4_findPair_18 : decode cX4_findPair 18 = .ok (.iconst 0, 1) := by decide +kernel
theorem dX4_findPair_19 : decode cX4_findPair 19 = .ok (.invokevirtual 51, 3) := by decide +kernel
theorem dX4_findPair_22 : decode cX4_findPair 22 = .ok (.aload_n 0, 1) := by decide +kernel
theorem dX4_findPair_23 : decode cX4_findPair 23 = .ok (.aconst_null, 1) := by decide +kernel
theorem dX4_findPair_24 : decode cX4_findPair 24 = .ok (.putfield 58, 3) := by decide +kernel
theorem dX4_findPair_27 : decode cX4_findPair 27 = .ok (.aload_n 0, 1) := by decide +kernel
theorem dX4_findPair_28 : decode cX4_findPair 28 = .ok (.aconst_null, 1) := by decide +kernel
theorem dX4_findPair_29 : decode cX4_findPair 29 = .ok (.putfield 62, 3) := by decide +kernel
theorem dX4_findPair_32 : decode cX4_findPair 32 = .ok (.iconst 0, 1) := by decide +kernel
theorem dX4_findPair_33 : decode cX4_findPair 33 = .ok (.istore_n 3, 1) := by decide +kernel
theorem dX4_findPair_34 : decode cX4_findPair 34 = .ok (.iload_n 3, 1) := by decide +kernel
theorem dX4_findPair_35 : decode cX4_findPair 35 = .ok (.aload_n 0, 1) := by decide +kernel
theorem dX4_findPair_36 : decode cX4_findPair 36 = .ok (.getfield 65, 3) := by decide +kernel
theorem dX4_findPair_39 : decode cX4_findPair 39 = .ok (.if_icmp .ge 69, 3) := by decide +kernel
theorem dX4_findPair_42 : decode cX4_findPair 42 = .ok (.iload_n 3, 1) := by decide +kernel
theorem dX4_findPair_43 : decode cX4_findPair 43 = .ok (.iconst 1, 1) := by decide +kernel
theorem dX4_findPair_44 : decode cX4_findPair 44 = .ok (.iadd, 1) := by decide +kernel
theorem dX4_findPair_45 : decode cX4_findPair 45 = .ok (.istore 4, 2) := by decide +kernel
theorem dX4_findPair_47 : decode cX4_findPair 47 = .ok (.iload 4, 2) := by decide +kernel
theorem dX4_findPair_49 : decode cX4_findPair 49 = .ok (.aload_n 0, 1) := by decide +kernel
theorem dX4_findPair_50 : decode cX4_findPair 50 = .ok (.getfield 65, 3) := by decide +kernel
theorem dX4_findPair_53 : decode cX4_findPair 53 = .ok (.if_icmp .ge 49, 3) := by decide +kernel
theorem dX4_findPair_56 : decode cX4_findPair 56 = .ok (.aload_n 0, 1) := by decide +kernel
theorem dX4_findPair_57 : decode cX4_findPair 57 = .ok (.getfield 32, 3) := by decide +kernel
theorem dX4_findPair_60 : decode cX4_findPair 60 = .ok (.iload_n 3, 1) := by decide +kernel
theorem dX4_findPair_61 : decode cX4_findPair 61 = .ok (.aaload, 1) := by decide +kernel
theorem dX4_findPair_62 : decode cX4_findPair 62 = .ok (.getfield 68, 3) := by decide +kernel
theorem dX4_findPair_65 : decode cX4_findPair 65 = .ok (.aload_n 0, 1) := by decide +kernel
theorem dX4_findPair_66 : decode cX4_findPair 66 = .ok (.getfield 32, 3) := by decide +kernel
theorem dX4_findPair_69 : decode cX4_findPair 69 = .ok (.iload 4, 2) := by decide +kernel
theorem dX4_findPair_71 : decode cX4_findPair 71 = .ok (.aaload, 1) := by decide +kernel
theorem dX4_findPair_72 : decode cX4_findPair 72 = .ok (.getfield 68, 3) := by decide +kernel
theorem dX4_findPair_75 : decode cX4_findPair 75 = .ok (.iand, 1) := by decide +kernel
theorem dX4_findPair_76 : decode cX4_findPair 76 = .ok (.ifCond .ne 20, 3) := by decide +kernel
theorem dX4_findPair_79 : decode cX4_findPair 79 = .ok (.aload_n 0, 1) := by decide +kernel
theorem dX4_findPair_80 : decode cX4_findPair 80 = .ok (.aload_n 0, 1) := by decide +kernel
theorem dX4_findPair_81 : decode cX4_findPair 81 = .ok (.getfield 32, 3) := by decide +kernel
theorem dX4_findPair_84 : decode cX4_findPair 84 = .ok (.iload_n 3, 1) := by decide +kernel
theorem dX4_findPair_85 : decode cX4_findPair 85 = .ok (.aaload, 1) := by decide +kernel
theorem dX4_findPair_86 : decode cX4_findPair 86 = .ok (.aload_n 0, 1) := by decide +kernel
theorem dX4_findPair_87 : decode cX4_findPair 87 = .ok (.getfield 32, 3) := by decide +kernel
theorem dX4_findPair_90 : decode cX4_findPair 90 = .ok (.iload 4, 2) := by decide +kernel
theorem dX4_findPair_92 : decode cX4_findPair 92 = .ok (.aaload, 1) := by decide +kernel
theorem dX4_findPair_93 : decode cX4_findPair 93 = .ok (.invokevirtual 71, 3) := by decide +kernel
theorem dX4_findPair_96 : decode cX4_findPair 96 = .ok (.iinc 4 1, 3) := by decide +kernel
theorem dX4_findPair_99 : decode cX4_findPair 99 = .ok (.goto (-52), 3) := by decide +kernel
theorem dX4_findPair_102 : decode cX4_findPair 102 = .ok (.iinc 3 1, 3) := by decide +kernel
theorem dX4_findPair_105 : decode cX4_findPair 105 = .ok (.goto (-71), 3) := by decide +kernel
theorem dX4_findPair_108 : decode cX4_findPair 108 = .ok (.return_, 1) := by decide +kernel
set_option maxRecDepth 20000 in
theorem ggX4_offerPair_X3_isAheadOf : GoodIn wsX4_offerPair wsX3_isAheadOf := goodIn_r _ [7, 8, 9, 10, 11, 30, 31, 32, 33, 34] (by decide +kernel) (by decide +kernel)
set_option maxRecDepth 20000 in
theorem gX4_offerPair_X3_isAheadOf : GoodIn wsX4_offerPair (wsV RX4 75 RX3 yX3_isAheadOf wsX3_isAheadOf) := goodIn_app (goodIn_of _ (by decide +kernel)) ggX4_offerPair_X3_isAheadOf
set_option maxRecDepth 20000 in
theorem ggX4_offerPair_X4_isPairAhead : GoodIn wsX4_offerPair wsX4_isPairAhead := goodIn_r _ [15, 16, 3, 4, 5, 6, 7, 8, 9, 10, 11, 30, 31, 32, 33, 34] (by decide +kernel) (by decide +kernel)
set_option maxRecDepth 20000 in
theorem gX4_offerPair_X4_isPairAhead : GoodIn wsX4_offerPair (va_wsS RX4 79 yX4_isPairAhead wsX4_isPairAhead) := goodIn_app (goodIn_of _ (by decide +kernel)) ggX4_offerPair_X4_isPairAhead
theorem dX4_offerPair_0 : decode cX4_offerPair 0 = .ok (.aload_n 1, 1) := by decide +kernel
theorem dX4_offerPair_1 : decode cX4_offerPair 1 = .ok (.aload_n 2, 1) := by decide +kernel
theorem dX4_offerPair_2 : decode cX4_offerPair 2 = .ok (.invokevirtual 75, 3) := by decide +kernel
theorem dX4_offerPair_5 : decode cX4_offerPair 5 = .ok (.istore_n 3, 1) := by decide +kernel
theorem dX4_offerPair_6 : decode cX4_offerPair 6 = .ok (.iload_n 3, 1) := by decide +kernel
theorem dX4_offerPair_7 : decode cX4_offerPair 7 = .ok (.ifCond .eq 7, 3) := by decide +kernel
theorem dX4_offerPair_10 : decode cX4_offerPair 10 = .ok (.aload_n 1, 1) := by decide +kernel
theorem dX4_offerPair_11 : decode cX4_offerPair 11 = .ok (.goto 4, 3) := by decide +kernel
theorem dX4_offerPair_14 : decode cX4_offerPair 14 = .ok (.aload_n 2, 1) := by decide +kernel
theorem dX4_offerPair_15 : decode cX4_offerPair 15 = .ok (.astore 4, 2) := by decide +kernel
theorem dX4_offerPair_17 : decode cX4_offerPair 17 = .ok (.iload_n 3, 1) := by decide +kernel
theorem dX4_offerPair_18 : decode cX4_offerPair 18 = .ok (.ifCond .eq 7, 3) := by decide +kernel
theorem dX4_offerPair_21 : decode cX4_offerPair 21 = .ok (.aload_n 2, 1) := by decide +kernel
theorem dX4_offerPair_22 : decode cX4_offerPair 22 = .ok (.goto 4, 3) := by decide +kernel
theorem dX4_offerPair_25 : decode cX4_offerPair 25 = .ok (.aload_n 1, 1) := by decide +kernel
theorem dX4_offerPair_26 : decode cX4_offerPair 26 = .ok (.astore 5, 2) := by decide +kernel
theorem dX4_offerPair_28 : decode cX4_offerPair 28 = .ok (.aload_n 0, 1) := by decide +kernel
theorem dX4_offerPair_29 : decode cX4_offerPair 29 = .ok (.getfield 58, 3) := by decide +kernel
theorem dX4_offerPair_32 : decode cX4_offerPair 32 = .ok (.ifnull 28, 3) := by decide +kernel
theorem dX4_offerPair_35 : decode cX4_offerPair 35 = .ok (.aload_n 0, 1) := by decide +kernel
theorem dX4_offerPair_36 : decode cX4_offerPair 36 = .ok (.getfield 62, 3) := by decide +kernel
theorem dX4_offerPair_39 : decode cX4_offerPair 39 = .ok (.ifnull 21, 3) := by decide +kernel
theorem dX4_offerPair_42 : decode cX4_offerPair 42 = .ok (.aload 4, 2) := by decide +kernel
theorem dX4_offerPair_44 : decode cX4_offerPair 44 = .ok (.aload 5, 2) := by decide +kernel
theorem dX4_offerPair_46 : decode cX4_offerPair 46 = .ok (.aload_n 0, 1) := by decide +kernel
theorem dX4_offerPair_47 : decode cX4_offerPair 47 = .ok (.getfield 58, 3) := by decide +kernel
theorem dX4_offerPair_50 : decode cX4_offerPair 50 = .ok (.aload_n 0, 1) := by decide +kernel
theorem dX4_offerPair_51 : decode cX4_offerPair 51 = .ok (.getfield 62, 3) := by decide +kernel
theorem dX4_offerPair_54 : decode cX4_offerPair 54 = .ok (.invokestatic 79, 3) := by decide +kernel
theorem dX4_offerPair_57 : decode cX4_offerPair 57 = .ok (.ifCond .eq 15, 3) := by decide +kernel
theorem dX4_offerPair_60 : decode cX4_offerPair 60 = .ok (.aload_n 0, 1) := by decide +kernel
theorem dX4_offerPair_61 : decode cX4_offerPair 61 = .ok (.aload 4, 2) := by decide +kernel
theorem dX4_offerPair_63 : decode cX4_offerPair 63 = .ok (.putfield 58, 3) := by decide +kernel
theorem dX4_offerPair_66 : decode cX4_offerPair 66 = .ok (.aload_n 0, 1) := by decide +kernel
theorem dX4_offerPair_67 : decode cX4_offerPair 67 = .ok (.aload 5, 2) := by decide +kernel
theorem dX4_offerPair_69 : decode cX4_offerPair 69 = .ok (.putfield 62, 3) := by decide +kernel
theorem dX4_offerPair_72 : decode cX4_offerPair 72 = .ok (.return_, 1) := by decide +kernel
set_option maxRecDepth 20000 in
theorem ggX4_isPairAhead_X3_isAheadOf : GoodIn wsX4_isPairAhead wsX3_isAheadOf := goodIn_r _ [6, 7, 8, 9, 10, 11, 12, 13, 14, 15] (by decide +kernel) (by decide +kernel)
set_option maxRecDepth 20000 in
theorem gX4_isPairAhead_X3_isAheadOf : GoodIn wsX4_isPairAhead (wsV RX4 75 RX3 yX3_isAheadOf wsX3_isAheadOf) := goodIn_app (goodIn_of _ (by decide +kernel)) ggX4_isPairAhead_X3_isAheadOf
theorem dX4_isPairAhead_0 : decode cX4_isPairAhead 0 = .ok (.aload_n 0, 1) := by decide +kernel
theorem dX4_isPairAhead_1 : decode cX4_isPairAhead 1 = .ok (.getfield 83, 3) := by decide +kernel
theorem dX4_isPairAhead_4 : decode cX4_isPairAhead 4 = .ok (.aload_n 1, 1) := by decide +kernel
theorem dX4_isPairAhead_5 : decode cX4_isPairAhead 5 = .ok (.getfield 83, 3) := by decide +kernel
theorem dX4_isPairAhead_8 : decode cX4_isPairAhead 8 = .ok (.iadd, 1) := by decide +kernel
theorem dX4_isPairAhead_9 : decode cX4_isPairAhead 9 = .ok (.aload_n 2, 1) := by decide +kernel
theorem dX4_isPairAhead_10 : decode cX4_isPairAhead 10 = .ok (.getfield 83, 3) := by decide +kernel
theorem dX4_isPairAhead_13 : decode cX4_isPairAhead 13 = .ok (.isub, 1) := by decide +kernel
theorem dX4_isPairAhead_14 : decode cX4_isPairAhead 14 = .ok (.aload_n 3, 1) := by decide +kernel
theorem dX4_isPairAhead_15 : decode cX4_isPairAhead 15 = .ok (.getfield 83, 3) := by decide +kernel
theorem dX4_isPairAhead_18 : decode cX4_isPairAhead 18 = .ok (.isub, 1) := by decide +kernel
theorem dX4_isPairAhead_19 : decode cX4_isPairAhead 19 = .ok (.istore 4, 2) := by decide +kernel
theorem dX4_isPairAhead_21 : decode cX4_isPairAhead 21 = .ok (.iload 4, 2) := by decide +kernel
theorem dX4_isPairAhead_23 : decode cX4_isPairAhead 23 = .ok (.ifCond .eq 14, 3) := by decide +kernel
theorem dX4_isPairAhead_26 : decode cX4_isPairAhead 26 = .ok (.iload 4, 2) := by decide +kernel
theorem dX4_isPairAhead_28 : decode cX4_isPairAhead 28 = .ok (.ifCond .ge 7, 3) := by decide +kernel
theorem dX4_isPairAhead_31 : decode cX4_isPairAhead 31 = .ok (.iconst 1, 1) := by decide +kernel
theorem dX4_isPairAhead_32 : decode cX4_isPairAhead 32 = .ok (.goto 4, 3) := by decide +kernel
theorem dX4_isPairAhead_35 : decode cX4_isPairAhead 35 = .ok (.iconst 0, 1) := by decide +kernel
theorem dX4_isPairAhead_36 : decode cX4_isPairAhead 36 = .ok (.ireturn, 1) := by decide +kernel
theorem dX4_isPairAhead_37 : decode cX4_isPairAhead 37 = .ok (.aload_n 0, 1) := by decide +kernel
theorem dX4_isPairAhead_38 : decode cX4_isPairAhead 38 = .ok (.aload_n 2, 1) := by decide +kernel
theorem dX4_isPairAhead_39 : decode cX4_isPairAhead 39 = .ok (.invokevirtual 75, 3) := by decide +kernel
theorem dX4_isPairAhead_42 : decode cX4_isPairAhead 42 = .ok (.ifCond .ne 16, 3) := by decide +kernel
theorem dX4_isPairAhead_45 : decode cX4_isPairAhead 45 = .ok (.aload_n 0, 1) := by decide +kernel
theorem dX4_isPairAhead_46 : decode cX4_isPairAhead 46 = .ok (.aload_n 2, 1) := by decide +kernel
theorem dX4_isPairAhead_47 : decode cX4_isPairAhead 47 = .ok (.if_acmp .ne 15, 3) := by decide +kernel
theorem dX4_isPairAhead_50 : decode cX4_isPairAhead 50 = .ok (.aload_n 1, 1) := by decide +kernel
theorem dX4_isPairAhead_51 : decode cX4_isPairAhead 51 = .ok (.aload_n 3, 1) := by decide +kernel
theorem dX4_isPairAhead_52 : decode cX4_isPairAhead 52 = .ok (.invokevirtual 75, 3) := by decide +kernel
theorem dX4_isPairAhead_55 : decode cX4_isPairAhead 55 = .ok (.ifCond .eq 7, 3) := by decide +kernel
theorem dX4_isPairAhead_58 : decode cX4_isPairAhead 58 = .ok (.iconst 1, 1) := by decide +kernel
theorem dX4_isPairAhead_59 : decode cX4_isPairAhead 59 = .ok (.goto 4, 3) := by decide +kernel
theorem dX4_isPairAhead_62 : decode cX4_isPairAhead 62 = .ok (.iconst 0, 1) := by decide +kernel
theorem dX4_isPairAhead_63 : decode cX4_isPairAhead 63 = .ok (.ireturn, 1) := by decide +kernel
set_option maxRecDepth 20000 in
theorem ggX4_pickFirst_X3_isAheadOf : GoodIn wsX4_pickFirst wsX3_isAheadOf := goodIn_r _ [9, 10, 11, 12, 13, 27, 28, 29, 30, 31] (by decide +kernel) (by decide +kernel)
set_option maxRecDepth 20000 in
theorem gX4_pickFirst_X3_isAheadOf : GoodIn wsX4_pickFirst (wsV RX4 75 RX3 yX3_isAheadOf wsX3_isAheadOf) := goodIn_app (goodIn_of _ (by decide +kernel)) ggX4_pickFirst_X3_isAheadOf
theorem dX4_pickFirst_0 : decode cX4_pickFirst 0 = .ok (.aload_n 0, 1) := by decide +kernel
theorem dX4_pickFirst_1 : decode cX4_pickFirst 1 = .ok (.aconst_null, 1) := by decide +kernel
theorem dX4_pickFirst_2 : decode cX4_pickFirst 2 = .ok (.putfield 58, 3) := by decide +kernel
theorem dX4_pickFirst_5 : decode cX4_pickFirst 5 = .ok (.aload_n 0, 1) := by decide +kernel
theorem dX4_pickFirst_6 : decode cX4_pickFirst 6 = .ok (.aconst_null, 1) := by decide +kernel
theorem dX4_pickFirst_7 : decode cX4_pickFirst 7 = .ok (.putfield 62, 3) := by decide +kernel
theorem dX4_pickFirst_10 : decode cX4_pickFirst 10 = .ok (.iconst 0, 1) := by decide +kernel
theorem dX4_pickFirst_11 : decode cX4_pickFirst 11 = .ok (.istore_n 1, 1) := by decide +kernel
theorem dX4_pickFirst_12 : decode cX4_pickFirst 12 = .ok (.iload_n 1, 1) := by decide +kernel
theorem dX4_pickFirst_13 : decode cX4_pickFirst 13 = .ok (.aload_n 0, 1) := by decide +kernel
theorem dX4_pickFirst_14 : decode cX4_pickFirst 14 = .ok (.getfield 65, 3) := by decide +kernel
theorem dX4_pickFirst_17 : decode cX4_pickFirst 17 = .ok (.if_icmp .ge 42, 3) := by decide +kernel
theorem dX4_pickFirst_20 : decode cX4_pickFirst 20 = .ok (.aload_n 0, 1) := by decide +kernel
theorem dX4_pickFirst_21 : decode cX4_pickFirst 21 = .ok (.getfield 58, 3) := by decide +kernel
theorem dX4_pickFirst_24 : decode cX4_pickFirst 24 = .ok (.ifnull 19, 3) := by decide +kernel
theorem dX4_pickFirst_27 : decode cX4_pickFirst 27 = .ok (.aload_n 0, 1) := by decide +kernel
theorem dX4_pickFirst_28 : decode cX4_pickFirst 28 = .ok (.getfield 32, 3) := by decide +kernel
theorem dX4_pickFirst_31 : decode cX4_pickFirst 31 = .ok (.iload_n 1, 1) := by decide +kernel
theorem dX4_pickFirst_32 : decode cX4_pickFirst 32 = .ok (.aaload, 1) := by decide +kernel
theorem dX4_pickFirst_33 : decode cX4_pickFirst 33 = .ok (.aload_n 0, 1) := by decide +kernel
theorem dX4_pickFirst_34 : decode cX4_pickFirst 34 = .ok (.getfield 58, 3) := by decide +kernel
theorem dX4_pickFirst_37 : decode cX4_pickFirst 37 = .ok (.invokevirtual 75, 3) := by decide +kernel
theorem dX4_pickFirst_40 : decode cX4_pickFirst 40 = .ok (.ifCond .eq 13, 3) := by decide +kernel
theorem dX4_pickFirst_43 : decode cX4_pickFirst 43 = .ok (.aload_n 0, 1) := by decide +kernel
theorem dX4_pickFirst_44 : decode cX4_pickFirst 44 = .ok (.aload_n 0, 1) := by decide +kernel
theorem dX4_pickFirst_45 : decode cX4_pickFirst 45 = .ok (.getfield 32, 3) := by decide +kernel
theorem dX4_pickFirst_48 : decode cX4_pickFirst 48 = .ok (.iload_n 1, 1) := by decide +kernel
theorem dX4_pickFirst_49 : decode cX4_pickFirst 49 = .ok (.aaload, 1) := by decide +kernel
theorem dX4_pickFirst_50 : decode cX4_pickFirst 50 = .ok (.putfield 58, 3) := by decide +kernel
theorem dX4_pickFirst_53 : decode cX4_pickFirst 53 = .ok (.iinc 1 1, 3) := by decide +kernel
theorem dX4_pickFirst_56 : decode cX4_pickFirst 56 = .ok (.goto (-44), 3) := by decide +kernel
theorem dX4_pickFirst_59 : decode cX4_pickFirst 59 = .ok (.return_, 1) := by decide +kernel
theorem dX4_aim_0 : decode cX4_aim 0 = .ok (.aload_n 0, 1) := by decide +kernel
theorem dX4_aim_1 : decode cX4_aim 1 = .ok (.iload_n 1, 1) := by decide +kernel
theorem dX4_aim_2 : decode cX4_aim 2 = .ok (.putfield 86, 3) := by decide +kernel
theorem dX4_aim_5 : decode cX4_aim 5 = .ok (.aload_n 0, 1) := by decide +kernel
theorem dX4_aim_6 : decode cX4_aim 6 = .ok (.iload_n 2, 1) := by decide +kernel
theorem dX4_aim_7 : decode cX4_aim 7 = .ok (.putfield 89, 3) := by decide +kernel
theorem dX4_aim_10 : decode cX4_aim 10 = .ok (.aload_n 0, 1) := by decide +kernel
theorem dX4_aim_11 : decode cX4_aim 11 = .ok (.iload_n 3, 1) := by decide +kernel
theorem dX4_aim_12 : decode cX4_aim 12 = .ok (.putfield 92, 3) := by decide +kernel
theorem dX4_aim_15 : decode cX4_aim 15 = .ok (.aload_n 0, 1) := by decide +kernel
theorem dX4_aim_16 : decode cX4_aim 16 = .ok (.iconst 0, 1) := by decide +kernel
theorem dX4_aim_17 : decode cX4_aim 17 = .ok (.putfield 65, 3) := by decide +kernel
theorem dX4_aim_20 : decode cX4_aim 20 = .ok (.return_, 1) := by decide +kernel
set_option maxRecDepth 20000 in
theorem ggX4_walk_X4_keep : GoodIn wsX4_walk wsX4_keep := goodIn_r _ [13, 14, 15, 16, 17, 18, 19, 12, 20, 7, 21, 22, 23, 24, 8, 25, 26, 27, 28, 29, 30, 31, 32, 33, 34, 35, 36, 37, 38, 6, 39, 40, 41, 42, 43, 44, 45, 66, 67, 68, 69, 70, 71, 72, 73, 74, 75, 76, 77, 78, 79, 80, 81, 82, 83] (by decide +kernel) (by decide +kernel)
set_option maxRecDepth 20000 in
theorem gX4_walk_X4_keep : GoodIn wsX4_walk (wsV RX4 93 RX4 yX4_keep wsX4_keep) := goodIn_app (goodIn_of _ (by decide +kernel)) ggX4_walk_X4_keep
set_option maxRecDepth 20000 in
theorem ggX4_walk_X2_acrossFrom : GoodIn wsX4_walk wsX2_acrossFrom := goodIn_r _ [50, 51, 52, 53, 54, 55, 49, 56, 57, 84, 85, 86, 87, 88, 89, 90, 91] (by decide +kernel) (by decide +kernel)
set_option maxRecDepth 20000 in
theorem gX4_walk_X2_acrossFrom : GoodIn wsX4_walk (wsV RX4 97 RX2 yX2_acrossFrom wsX2_acrossFrom) := goodIn_app (goodIn_of _ (by decide +kernel)) ggX4_walk_X2_acrossFrom
set_option maxRecDepth 20000 in
theorem ggX4_walk_X2_lengthOf : GoodIn wsX4_walk wsX2_lengthOf := goodIn_r _ [61, 62, 53, 54, 55, 49, 56, 57, 84, 85, 86, 87, 88, 89, 90, 91] (by decide +kernel) (by decide +kernel)
set_option maxRecDepth 20000 in
theorem gX4_walk_X2_lengthOf : GoodIn wsX4_walk (wsV RX4 101 RX2 yX2_lengthOf wsX2_lengthOf) := goodIn_app (goodIn_of _ (by decide +kernel)) ggX4_walk_X2_lengthOf
set_option maxRecDepth 20000 in
theorem ggX4_walk_X4_walk : GoodIn wsX4_walk wsX4_walk := goodIn_r _ [0, 1, 2, 3, 4, 5, 6, 7, 8, 9, 10, 11, 12, 13, 14, 15, 16, 17, 18, 19, 20, 21, 22, 23, 24, 25, 26, 27, 28, 29, 30, 31, 32, 33, 34, 35, 36, 37, 38, 39, 40, 41, 42, 43, 44, 45, 46, 47, 48, 49, 50, 51, 52, 53, 54, 55, 56, 57, 58, 59, 60, 61, 62, 63, 64, 65, 66, 67, 68, 69, 70, 71, 72, 73, 74, 75, 76, 77, 78, 79, 80, 81, 82, 83, 84, 85, 86, 87, 88, 89, 90, 91] (by decide +kernel) (by decide +kernel)
set_option maxRecDepth 20000 in
theorem gX4_walk_X4_walk : GoodIn wsX4_walk (wsV RX4 51 RX4 yX4_walk wsX4_walk) := goodIn_app (goodIn_of _ (by decide +kernel)) ggX4_walk_X4_walk
theorem dX4_walk_0 : decode cX4_walk 0 = .ok (.iload_n 1, 1) := by decide +kernel
theorem dX4_walk_1 : decode cX4_walk 1 = .ok (.aload_n 0, 1) := by decide +kernel
theorem dX4_walk_2 : decode cX4_walk 2 = .ok (.getfield 86, 3) := by decide +kernel
theorem dX4_walk_5 : decode cX4_walk 5 = .ok (.if_icmp .ne 12, 3) := by decide +kernel
theorem dX4_walk_8 : decode cX4_walk 8 = .ok (.aload_n 0, 1) := by decide +kernel
theorem dX4_walk_9 : decode cX4_walk 9 = .ok (.iload 4, 2) := by decide +kernel
theorem dX4_walk_11 : decode cX4_walk 11 = .ok (.iload 5, 2) := by decide +kernel
theorem dX4_walk_13 : decode cX4_walk 13 = .ok (.invokevirtual 93, 3) := by decide +kernel
theorem dX4_walk_16 : decode cX4_walk 16 = .ok (.return_, 1) := by decide +kernel
theorem dX4_walk_17 : decode cX4_walk 17 = .ok (.iload 4, 2) := by decide +kernel
theorem dX4_walk_19 : decode cX4_walk 19 = .ok (.bipush 7, 2) := by decide +kernel
theorem dX4_walk_21 : decode cX4_walk 21 = .ok (.if_icmp .lt 4, 3) := by decide +kernel
theorem dX4_walk_24 : decode cX4_walk 24 = .ok (.return_, 1) := by decide +kernel
theorem dX4_walk_25 : decode cX4_walk 25 = .ok (.aload_n 0, 1) := by decide +kernel
theorem dX4_walk_26 : decode cX4_walk 26 = .ok (.getfield 92, 3) := by decide +kernel
theorem dX4_walk_29 : decode cX4_walk 29 = .ok (.iload_n 1, 1) := by decide +kernel
theorem dX4_walk_30 : decode cX4_walk 30 = .ok (.ishr, 1) := by decide +kernel
theorem dX4_walk_31 : decode cX4_walk 31 = .ok (.iconst 1, 1) := by decide +kernel
theorem dX4_walk_32 : decode cX4_walk 32 = .ok (.iand, 1) := by decide +kernel
theorem dX4_walk_33 : decode cX4_walk 33 = .ok (.ifCond .eq 7, 3) := by decide +kernel
theorem dX4_walk_36 : decode cX4_walk 36 = .ok (.iconst 1, 1) := by decide +kernel
theorem dX4_walk_37 : decode cX4_walk 37 = .ok (.goto 4, 3) := by decide +kernel
theorem dX4_walk_40 : decode cX4_walk 40 = .ok (.iconst 0, 1) := by decide +kernel
theorem dX4_walk_41 : decode cX4_walk 41 = .ok (.istore 6, 2) := by decide +kernel
theorem dX4_walk_43 : decode cX4_walk 43 = .ok (.iconst 0, 1) := by decide +kernel
theorem dX4_walk_44 : decode cX4_walk 44 = .ok (.istore 7, 2) := by decide +kernel
theorem dX4_walk_46 : decode cX4_walk 46 = .ok (.iload 7, 2) := by decide +kernel
theorem dX4_walk_48 : decode cX4_walk 48 = .ok (.bipush 14, 2) := by decide +kernel
theorem dX4_walk_50 : decode cX4_walk 50 = .ok (.if_icmp .ge 127, 3) := by decide +kernel
theorem dX4_walk_53 : decode cX4_walk 53 = .ok (.aload_n 0, 1) := by decide +kernel
theorem dX4_walk_54 : decode cX4_walk 54 = .ok (.getfield 36, 3) := by decide +kernel
theorem dX4_walk_57 : decode cX4_walk 57 = .ok (.iload_n 1, 1) := by decide +kernel
theorem dX4_walk_58 : decode cX4_walk 58 = .ok (.iload 7, 2) := by decide +kernel
theorem dX4_walk_60 : decode cX4_walk 60 = .ok (.invokevirtual 97, 3) := by decide +kernel
theorem dX4_walk_63 : decode cX4_walk 63 = .ok (.istore 8, 2) := by decide +kernel
theorem dX4_walk_65 : decode cX4_walk 65 = .ok (.aload_n 0, 1) := by decide +kernel
theorem dX4_walk_66 : decode cX4_walk 66 = .ok (.getfield 9, 3) := by decide +kernel
theorem dX4_walk_69 : decode cX4_walk 69 = .ok (.iload 7, 2) := by decide +kernel
theorem dX4_walk_71 : decode cX4_walk 71 = .ok (.iaload, 1) := by decide +kernel
theorem dX4_walk_72 : decode cX4_walk 72 = .ok (.aload_n 0, 1) := by decide +kernel
theorem dX4_walk_73 : decode cX4_walk 73 = .ok (.getfield 89, 3) := by decide +kernel
theorem dX4_walk_76 : decode cX4_walk 76 = .ok (.iand, 1) := by decide +kernel
theorem dX4_walk_77 : decode cX4_walk 77 = .ok (.istore 9, 2) := by decide +kernel
theorem dX4_walk_79 : decode cX4_walk 79 = .ok (.iload 6, 2) := by decide +kernel
theorem dX4_walk_81 : decode cX4_walk 81 = .ok (.ifCond .eq 8, 3) := by decide +kernel
theorem dX4_walk_84 : decode cX4_walk 84 = .ok (.iload 9, 2) := by decide +kernel
theorem dX4_walk_86 : decode cX4_walk 86 = .ok (.goto 7, 3) := by decide +kernel
theorem dX4_walk_89 : decode cX4_walk 89 = .ok (.iload 9, 2) := by decide +kernel
theorem dX4_walk_91 : decode cX4_walk 91 = .ok (.iload_n 3, 1) := by decide +kernel
theorem dX4_walk_92 : decode cX4_walk 92 = .ok (.iand, 1) := by decide +kernel
theorem dX4_walk_93 : decode cX4_walk 93 = .ok (.istore 10, 2) := by decide +kernel
theorem dX4_walk_95 : decode cX4_walk 95 = .ok (.iload 8, 2) := by decide +kernel
theorem dX4_walk_97 : decode cX4_walk 97 = .ok (.ifCond .lt 74, 3) := by decide +kernel
theorem dX4_walk_100 : decode cX4_walk 100 = .ok (.iload_n 2, 1) := by decide +kernel
theorem dX4_walk_101 : decode cX4_walk 101 = .ok (.iload 8, 2) := by decide +kernel
theorem dX4_walk_103 : decode cX4_walk 103 = .ok (.ishr, 1) := by decide +kernel
theorem dX4_walk_104 : decode cX4_walk 104 = .ok (.iconst 1, 1) := by decide +kernel
theorem dX4_walk_105 : decode cX4_walk 105 = .ok (.iand, 1) := by decide +kernel
theorem dX4_walk_106 : decode cX4_walk 106 = .ok (.ifCond .ne 65, 3) := by decide +kernel
theorem dX4_walk_109 : decode cX4_walk 109 = .ok (.iload 10, 2) := by decide +kernel
theorem dX4_walk_111 : decode cX4_walk 111 = .ok (.ifCond .eq 60, 3) := by decide +kernel
theorem dX4_walk_114 : decode cX4_walk 114 = .ok (.aload_n 0, 1) := by decide +kernel
theorem dX4_walk_115 : decode cX4_walk 115 = .ok (.getfield 15, 3) := by decide +kernel
theorem dX4_walk_118 : decode cX4_walk 118 = .ok (.iload 4, 2) := by decide +kernel
theorem dX4_walk_120 : decode cX4_walk 120 = .ok (.iload 7, 2) := by decide +kernel
theorem dX4_walk_122 : decode cX4_walk 122 = .ok (.iastore, 1) := by decide +kernel
theorem dX4_walk_123 : decode cX4_walk 123 = .ok (.aload_n 0, 1) := by decide +kernel
theorem dX4_walk_124 : decode cX4_walk 124 = .ok (.getfield 18, 3) := by decide +kernel
theorem dX4_walk_127 : decode cX4_walk 127 = .ok (.iload 4, 2) := by decide +kernel
theorem dX4_walk_129 : decode cX4_walk 129 = .ok (.iload 9, 2) := by decide +kernel
theorem dX4_walk_131 : decode cX4_walk 131 = .ok (.iastore, 1) := by decide +kernel
theorem dX4_walk_132 : decode cX4_walk 132 = .ok (.aload_n 0, 1) := by decide +kernel
theorem dX4_walk_133 : decode cX4_walk 133 = .ok (.getfield 21, 3) := by decide +kernel
theorem dX4_walk_136 : decode cX4_walk 136 = .ok (.iload 4, 2) := by decide +kernel
theorem dX4_walk_138 : decode cX4_walk 138 = .ok (.iload 6, 2) := by decide +kernel
theorem dX4_walk_140 : decode cX4_walk 140 = .ok (.bastore, 1) := by decide +kernel
theorem dX4_walk_141 : decode cX4_walk 141 = .ok (.aload_n 0, 1) := by decide +kernel
theorem dX4_walk_142 : decode cX4_walk 142 = .ok (.iload 8, 2) := by decide +kernel
theorem dX4_walk_144 : decode cX4_walk 144 = .ok (.iload_n 2, 1) := by decide +kernel
theorem dX4_walk_145 : decode cX4_walk 145 = .ok (.iconst 1, 1) := by decide +kernel
theorem dX4_walk_146 : decode cX4_walk 146 = .ok (.iload 8, 2) := by decide +kernel
theorem dX4_walk_148 : decode cX4_walk 148 = .ok (.ishl, 1) := by decide +kernel
theorem dX4_walk_149 : decode cX4_walk 149 = .ok (.ior, 1) := by decide +kernel
theorem dX4_walk_150 : decode cX4_walk 150 = .ok (.iload 10, 2) := by decide +kernel
theorem dX4_walk_152 : decode cX4_walk 152 = .ok (.iload 4, 2) := by decide +kernel
theorem dX4_walk_154 : decode cX4_walk 154 = .ok (.iconst 1, 1) := by decide +kernel
theorem dX4_walk_155 : decode cX4_walk 155 = .ok (.iadd, 1) := by decide +kernel
theorem dX4_walk_156 : decode cX4_walk 156 = .ok (.iload 5, 2) := by decide +kernel
theorem dX4_walk_158 : decode cX4_walk 158 = .ok (.aload_n 0, 1) := by decide +kernel
theorem dX4_walk_159 : decode cX4_walk 159 = .ok (.getfield 36, 3) := by decide +kernel
theorem dX4_walk_162 : decode cX4_walk 162 = .ok (.iload 7, 2) := by decide +kernel
theorem dX4_walk_164 : decode cX4_walk 164 = .ok (.invokevirtual 101, 3) := by decide +kernel
theorem dX4_walk_167 : decode cX4_walk 167 = .ok (.iadd, 1) := by decide +kernel
theorem dX4_walk_168 : decode cX4_walk 168 = .ok (.invokevirtual 51, 3) := by decide +kernel
theorem dX4_walk_171 : decode cX4_walk 171 = .ok (.iinc 7 1, 3) := by decide +kernel
theorem dX4_walk_174 : decode cX4_walk 174 = .ok (.goto (-128), 3) := by decide +kernel
theorem dX4_walk_177 : decode cX4_walk 177 = .ok (.return_, 1) := by decide +kernel
set_option maxRecDepth 20000 in
theorem ggX4_keep_X4_countConversionsBackwards : GoodIn wsX4_keep wsX4_countConversionsBackwards := goodIn_r _ [8, 2, 9, 10, 11, 12, 7, 13, 14, 37, 38, 39, 40, 41, 42, 43, 44, 45, 46, 47, 48, 49] (by decide +kernel) (by decide +kernel)
set_option maxRecDepth 20000 in
theorem gX4_keep_X4_countConversionsBackwards : GoodIn wsX4_keep (wsV RX4 105 RX4 yX4_countConversionsBackwards wsX4_countConversionsBackwards) := goodIn_app (goodIn_of _ (by decide +kernel)) ggX4_keep_X4_countConversionsBackwards
set_option maxRecDepth 20000 in
theorem ggX4_keep_X3_start : GoodIn wsX4_keep wsX3_start := goodIn_r _ [19, 20, 21, 22, 23, 24, 50, 51, 52, 53, 54] (by decide +kernel) (by decide +kernel)
set_option maxRecDepth 20000 in
theorem gX4_keep_X3_start : GoodIn wsX4_keep (wsV RX4 109 RX3 yX3_start wsX3_start) := goodIn_app (goodIn_of _ (by decide +kernel)) ggX4_keep_X3_start
set_option maxRecDepth 20000 in
theorem ggX4_keep_X4_takeLowestWavelengths : GoodIn wsX4_keep wsX4_takeLowestWavelengths := goodIn_r _ [28, 2, 29, 14, 30, 31, 32, 33, 34, 35, 18, 36, 24, 23, 20, 37, 38, 39, 40, 41, 42, 43, 44, 45, 46, 47, 48, 49, 50, 51, 52, 53, 54] (by decide +kernel) (by decide +kernel)
set_option maxRecDepth 20000 in
theorem gX4_keep_X4_takeLowestWavelengths : GoodIn wsX4_keep (wsV RX4 112 RX4 yX4_takeLowestWavelengths wsX4_takeLowestWavelengths) := goodIn_app (goodIn_of _ (by decide +kernel)) ggX4_keep_X4_takeLowestWavelengths
theorem dX4_keep_0 : decode cX4_keep 0 = .ok (.aload_n 0, 1) := by decide +kernel
theorem dX4_keep_1 : decode cX4_keep 1 = .ok (.getfield 65, 3) := by decide +kernel
theorem dX4_keep_4 : decode cX4_keep 4 = .ok (.sipush 162, 3) := by decide +kernel
theorem dX4_keep_7 : decode cX4_keep 7 = .ok (.if_icmp .ge 14, 3) := by decide +kernel
theorem dX4_keep_10 : decode cX4_keep 10 = .ok (.iload_n 1, 1) := by decide +kernel
theorem dX4_keep_11 : decode cX4_keep 11 = .ok (.iconst 1, 1) := by decide +kernel
theorem dX4_keep_12 : decode cX4_keep 12 = .ok (.if_icmp .lt 9, 3) := by decide +kernel
theorem dX4_keep_15 : decode cX4_keep 15 = .ok (.iload_n 1, 1) := by decide +kernel
theorem dX4_keep_16 : decode cX4_keep 16 = .ok (.bipush 7, 2) := by decide +kernel
theorem dX4_keep_18 : decode cX4_keep 18 = .ok (.if_icmp .le 4, 3) := by decide +kernel
theorem dX4_keep_21 : decode cX4_keep 21 = .ok (.return_, 1) := by decide +kernel
theorem dX4_keep_22 : decode cX4_keep 22 = .ok (.aload_n 0, 1) := by decide +kernel
theorem dX4_keep_23 : decode cX4_keep 23 = .ok (.iload_n 1, 1) := by decide +kernel
theorem dX4_keep_24 : decode cX4_keep 24 = .ok (.invokevirtual 105, 3) := by decide +kernel
theorem dX4_keep_27 : decode cX4_keep 27 = .ok (.iconst 0, 1) := by decide +kernel
theorem dX4_keep_28 : decode cX4_keep 28 = .ok (.istore_n 3, 1) := by decide +kernel
theorem dX4_keep_29 : decode cX4_keep 29 = .ok (.iload_n 3, 1) := by decide +kernel
theorem dX4_keep_30 : decode cX4_keep 30 = .ok (.iload_n 1, 1) := by decide +kernel
theorem dX4_keep_31 : decode cX4_keep 31 = .ok (.iconst 1, 1) := by decide +kernel
theorem dX4_keep_32 : decode cX4_keep 32 = .ok (.isub, 1) := by decide +kernel
theorem dX4_keep_33 : decode cX4_keep 33 = .ok (.if_icmp .ge 20, 3) := by decide +kernel
theorem dX4_keep_36 : decode cX4_keep 36 = .ok (.aload_n 0, 1) := by decide +kernel
theorem dX4_keep_37 : decode cX4_keep 37 = .ok (.getfield 27, 3) := by decide +kernel
theorem dX4_keep_40 : decode cX4_keep 40 = .ok (.iconst 0, 1) := by decide +kernel
theorem dX4_keep_41 : decode cX4_keep 41 = .ok (.aaload, 1) := by decide +kernel
theorem dX4_keep_42 : decode cX4_keep 42 = .ok (.iload_n 3, 1) := by decide +kernel
theorem dX4_keep_43 : decode cX4_keep 43 = .ok (.iaload, 1) := by decide +kernel
theorem dX4_keep_44 : decode cX4_keep 44 = .ok (.ifCond .ne 9, 3) := by decide +kernel
theorem dX4_keep_47 : decode cX4_keep 47 = .ok (.iinc 3 1, 3) := by decide +kernel
theorem dX4_keep_50 : decode cX4_keep 50 = .ok (.goto (-21), 3) := by decide +kernel
theorem dX4_keep_53 : decode cX4_keep 53 = .ok (.aload_n 0, 1) := by decide +kernel
theorem dX4_keep_54 : decode cX4_keep 54 = .ok (.getfield 32, 3) := by decide +kernel
theorem dX4_keep_57 : decode cX4_keep 57 = .ok (.aload_n 0, 1) := by decide +kernel
theorem dX4_keep_58 : decode cX4_keep 58 = .ok (.getfield 65, 3) := by decide +kernel
theorem dX4_keep_61 : decode cX4_keep 61 = .ok (.aaload, 1) := by decide +kernel
theorem dX4_keep_62 : decode cX4_keep 62 = .ok (.astore 4, 2) := by decide +kernel
theorem dX4_keep_64 : decode cX4_keep 64 = .ok (.aload_n 0, 1) := by decide +kernel
theorem dX4_keep_65 : decode cX4_keep 65 = .ok (.dup, 1) := by decide +kernel
theorem dX4_keep_66 : decode cX4_keep 66 = .ok (.getfield 65, 3) := by decide +kernel
theorem dX4_keep_69 : decode cX4_keep 69 = .ok (.iconst 1, 1) := by decide +kernel
theorem dX4_keep_70 : decode cX4_keep 70 = .ok (.iadd, 1) := by decide +kernel
theorem dX4_keep_71 : decode cX4_keep 71 = .ok (.putfield 65, 3) := by decide +kernel
theorem dX4_keep_74 : decode cX4_keep 74 = .ok (.aload 4, 2) := by decide +kernel
theorem dX4_keep_76 : decode cX4_keep 76 = .ok (.iload_n 2, 1) := by decide +kernel
theorem dX4_keep_77 : decode cX4_keep 77 = .ok (.iload_n 3, 1) := by decide +kernel
theorem dX4_keep_78 : decode cX4_keep 78 = .ok (.invokevirtual 109, 3) := by decide +kernel
theorem dX4_keep_81 : decode cX4_keep 81 = .ok (.aload_n 0, 1) := by decide +kernel
theorem dX4_keep_82 : decode cX4_keep 82 = .ok (.aload 4, 2) := by decide +kernel
theorem dX4_keep_84 : decode cX4_keep 84 = .ok (.iload_n 1, 1) := by decide +kernel
theorem dX4_keep_85 : decode cX4_keep 85 = .ok (.iload_n 3, 1) := by decide +kernel
theorem dX4_keep_86 : decode cX4_keep 86 = .ok (.invokevirtual 112, 3) := by decide +kernel
theorem dX4_keep_89 : decode cX4_keep 89 = .ok (.return_, 1) := by decide +kernel
set_option maxRecDepth 20000 in
theorem ggX4_takeLowestWavelengths_X5_lowestIn : GoodIn wsX4_takeLowestWavelengths wsX5_lowestIn := goodIn_r _ [6] (by decide +kernel) (by decide +kernel)
set_option maxRecDepth 20000 in
theorem gX4_takeLowestWavelengths_X5_lowestIn_n116 : GoodIn wsX4_takeLowestWavelengths (wsX5_lowestIn) := ggX4_takeLowestWavelengths_X5_lowestIn
set_option maxRecDepth 20000 in
theorem ggX4_takeLowestWavelengths_X3_append : GoodIn wsX4_takeLowestWavelengths wsX3_append := goodIn_r _ [11, 12, 13, 14, 28, 29, 30, 31, 32] (by decide +kernel) (by decide +kernel)
set_option maxRecDepth 20000 in
theorem gX4_takeLowestWavelengths_X3_append : GoodIn wsX4_takeLowestWavelengths (wsV RX4 119 RX3 yX3_append wsX3_append) := goodIn_app (goodIn_of _ (by decide +kernel)) ggX4_takeLowestWavelengths_X3_append
theorem dX4_takeLowestWavelengths_0 : decode cX4_takeLowestWavelengths 0 = .ok (.iload_n 3, 1) := by decide +kernel
theorem dX4_takeLowestWavelengths_1 : decode cX4_takeLowestWavelengths 1 = .ok (.istore 4, 2) := by decide +kernel
theorem dX4_takeLowestWavelengths_3 : decode cX4_takeLowestWavelengths 3 = .ok (.aload_n 0, 1) := by decide +kernel
theorem dX4_takeLowestWavelengths_4 : decode cX4_takeLowestWavelengths 4 = .ok (.getfield 27, 3) := by decide +kernel
theorem dX4_takeLowestWavelengths_7 : decode cX4_takeLowestWavelengths 7 = .ok (.iconst 0, 1) := by decide +kernel
theorem dX4_takeLowestWavelengths_8 : decode cX4_takeLowestWavelengths 8 = .ok (.aaload, 1) := by decide +kernel
theorem dX4_takeLowestWavelengths_9 : decode cX4_takeLowestWavelengths 9 = .ok (.iload 4, 2) := by decide +kernel
theorem dX4_takeLowestWavelengths_11 : decode cX4_takeLowestWavelengths 11 = .ok (.iaload, 1) := by decide +kernel
theorem dX4_takeLowestWavelengths_12 : decode cX4_takeLowestWavelengths 12 = .ok (.invokestatic 116, 3) := by decide +kernel
theorem dX4_takeLowestWavelengths_15 : decode cX4_takeLowestWavelengths 15 = .ok (.istore 5, 2) := by decide +kernel
theorem dX4_takeLowestWavelengths_17 : decode cX4_takeLowestWavelengths 17 = .ok (.aload_n 1, 1) := by decide +kernel
theorem dX4_takeLowestWavelengths_18 : decode cX4_takeLowestWavelengths 18 = .ok (.aload_n 0, 1) := by decide +kernel
theorem dX4_takeLowestWavelengths_19 : decode cX4_takeLowestWavelengths 19 = .ok (.getfield 15, 3) := by decide +kernel
theorem dX4_takeLowestWavelengths_22 : decode cX4_takeLowestWavelengths 22 = .ok (.iconst 0, 1) := by decide +kernel
theorem dX4_takeLowestWavelengths_23 : decode cX4_takeLowestWavelengths 23 = .ok (.iaload, 1) := by decide +kernel
theorem dX4_takeLowestWavelengths_24 : decode cX4_takeLowestWavelengths 24 = .ok (.iload 5, 2) := by decide +kernel
theorem dX4_takeLowestWavelengths_26 : decode cX4_takeLowestWavelengths 26 = .ok (.invokevirtual 119, 3) := by decide +kernel
theorem dX4_takeLowestWavelengths_29 : decode cX4_takeLowestWavelengths 29 = .ok (.iconst 1, 1) := by decide +kernel
theorem dX4_takeLowestWavelengths_30 : decode cX4_takeLowestWavelengths 30 = .ok (.istore 6, 2) := by decide +kernel
theorem dX4_takeLowestWavelengths_32 : decode cX4_takeLowestWavelengths 32 = .ok (.iload 6, 2) := by decide +kernel
theorem dX4_takeLowestWavelengths_34 : decode cX4_takeLowestWavelengths 34 = .ok (.iload_n 2, 1) := by decide +kernel
theorem dX4_takeLowestWavelengths_35 : decode cX4_takeLowestWavelengths 35 = .ok (.if_icmp .ge 110, 3) := by decide +kernel
theorem dX4_takeLowestWavelengths_38 : decode cX4_takeLowestWavelengths 38 = .ok (.iload 4, 2) := by decide +kernel
theorem dX4_takeLowestWavelengths_40 : decode cX4_takeLowestWavelengths 40 = .ok (.ifCond .le 17, 3) := by decide +kernel
theorem dX4_takeLowestWavelengths_43 : decode cX4_takeLowestWavelengths 43 = .ok (.aload_n 0, 1) := by decide +kernel
theorem dX4_takeLowestWavelengths_44 : decode cX4_takeLowestWavelengths 44 = .ok (.getfield 21, 3) := by decide +kernel
theorem dX4_takeLowestWavelengths_47 : decode cX4_takeLowestWavelengths 47 = .ok (.iload 6, 2) := by decide +kernel
theorem dX4_takeLowestWavelengths_49 : decode cX4_takeLowestWavelengths 49 = .ok (.baload, 1) := by decide +kernel
theorem dX4_takeLowestWavelengths_50 : decode cX4_takeLowestWavelengths 50 = .ok (.ifCond .eq 7, 3) := by decide +kernel
theorem dX4_takeLowestWavelengths_53 : decode cX4_takeLowestWavelengths 53 = .ok (.iconst 1, 1) := by decide +kernel
theorem dX4_takeLowestWavelengths_54 : decode cX4_takeLowestWavelengths 54 = .ok (.goto 4, 3) := by decide +kernel
theorem dX4_takeLowestWavelengths_57 : decode cX4_takeLowestWavelengths 57 = .ok (.iconst 0, 1) := by decide +kernel
theorem dX4_takeLowestWavelengths_58 : decode cX4_takeLowestWavelengths 58 = .ok (.istore 7, 2) := by decide +kernel
theorem dX4_takeLowestWavelengths_60 : decode cX4_takeLowestWavelengths 60 = .ok (.aload_n 0, 1) := by decide +kernel
theorem dX4_takeLowestWavelengths_61 : decode cX4_takeLowestWavelengths 61 = .ok (.getfield 27, 3) := by decide +kernel
theorem dX4_takeLowestWavelengths_64 : decode cX4_takeLowestWavelengths 64 = .ok (.iload 6, 2) := by decide +kernel
theorem dX4_takeLowestWavelengths_66 : decode cX4_takeLowestWavelengths 66 = .ok (.aaload, 1) := by decide +kernel
theorem dX4_takeLowestWavelengths_67 : decode cX4_takeLowestWavelengths 67 = .ok (.iload 4, 2) := by decide +kernel
theorem dX4_takeLowestWavelengths_69 : decode cX4_takeLowestWavelengths 69 = .ok (.iaload, 1) := by decide +kernel
theorem dX4_takeLowestWavelengths_70 : decode cX4_takeLowestWavelengths 70 = .ok (.iconst 1, 1) := by decide +kernel
theorem dX4_takeLowestWavelengths_71 : decode cX4_takeLowestWavelengths 71 = .ok (.iload 5, 2) := by decide +kernel
theorem dX4_takeLowestWavelengths_73 : decode cX4_takeLowestWavelengths 73 = .ok (.ishl, 1) := by decide +kernel
theorem dX4_takeLowestWavelengths_74 : decode cX4_takeLowestWavelengths 74 = .ok (.iand, 1) := by decide +kernel
theorem dX4_takeLowestWavelengths_75 : decode cX4_takeLowestWavelengths 75 = .ok (.istore 8, 2) := by decide +kernel
theorem dX4_takeLowestWavelengths_77 : decode cX4_takeLowestWavelengths 77 = .ok (.iload 7, 2) := by decide +kernel
theorem dX4_takeLowestWavelengths_79 : decode cX4_takeLowestWavelengths 79 = .ok (.ifCond .eq 21, 3) := by decide +kernel
theorem dX4_takeLowestWavelengths_82 : decode cX4_takeLowestWavelengths 82 = .ok (.iload 8, 2) := by decide +kernel
theorem dX4_takeLowestWavelengths_84 : decode cX4_takeLowestWavelengths 84 = .ok (.aload_n 0, 1) := by decide +kernel
theorem dX4_takeLowestWavelengths_85 : decode cX4_takeLowestWavelengths 85 = .ok (.getfield 27, 3) := by decide +kernel
theorem dX4_takeLowestWavelengths_88 : decode cX4_takeLowestWavelengths 88 = .ok (.iload 6, 2) := by decide +kernel
theorem dX4_takeLowestWavelengths_90 : decode cX4_takeLowestWavelengths 90 = .ok (.aaload, 1) := by decide +kernel
theorem dX4_takeLowestWavelengths_91 : decode cX4_takeLowestWavelengths 91 = .ok (.iload 4, 2) := by decide +kernel
theorem dX4_takeLowestWavelengths_93 : decode cX4_takeLowestWavelengths 93 = .ok (.iconst 1, 1) := by decide +kernel
theorem dX4_takeLowestWavelengths_94 : decode cX4_takeLowestWavelengths 94 = .ok (.isub, 1) := by decide +kernel
theorem dX4_takeLowestWavelengths_95 : decode cX4_takeLowestWavelengths 95 = .ok (.iaload, 1) := by decide +kernel
theorem dX4_takeLowestWavelengths_96 : decode cX4_takeLowestWavelengths 96 = .ok (.ior, 1) := by decide +kernel
theorem dX4_takeLowestWavelengths_97 : decode cX4_takeLowestWavelengths 97 = .ok (.goto 5, 3) := by decide +kernel
theorem dX4_takeLowestWavelengths_100 : decode cX4_takeLowestWavelengths 100 = .ok (.iload 8, 2) := by decide +kernel
theorem dX4_takeLowestWavelengths_102 : decode cX4_takeLowestWavelengths 102 = .ok (.invokestatic 116, 3) := by decide +kernel
theorem dX4_takeLowestWavelengths_105 : decode cX4_takeLowestWavelengths 105 = .ok (.istore 9, 2) := by decide +kernel
theorem dX4_takeLowestWavelengths_107 : decode cX4_takeLowestWavelengths 107 = .ok (.iload 7, 2) := by decide +kernel
theorem dX4_takeLowestWavelengths_109 : decode cX4_takeLowestWavelengths 109 = .ok (.ifCond .eq 13, 3) := by decide +kernel
theorem dX4_takeLowestWavelengths_112 : decode cX4_takeLowestWavelengths 112 = .ok (.iload 9, 2) := by decide +kernel
theorem dX4_takeLowestWavelengths_114 : decode cX4_takeLowestWavelengths 114 = .ok (.iload 5, 2) := by decide +kernel
theorem dX4_takeLowestWavelengths_116 : decode cX4_takeLowestWavelengths 116 = .ok (.if_icmp .eq 6, 3) := by decide +kernel
theorem dX4_takeLowestWavelengths_119 : decode cX4_takeLowestWavelengths 119 = .ok (.iinc 4 (-1), 3) := by decide +kernel
theorem dX4_takeLowestWavelengths_122 : decode cX4_takeLowestWavelengths 122 = .ok (.iload 9, 2) := by decide +kernel
theorem dX4_takeLowestWavelengths_124 : decode cX4_takeLowestWavelengths 124 = .ok (.istore 5, 2) := by decide +kernel
theorem dX4_takeLowestWavelengths_126 : decode cX4_takeLowestWavelengths 126 = .ok (.aload_n 1, 1) := by decide +kernel
theorem dX4_takeLowestWavelengths_127 : decode cX4_takeLowestWavelengths 127 = .ok (.aload_n 0, 1) := by decide +kernel
theorem dX4_takeLowestWavelengths_128 : decode cX4_takeLowestWavelengths 128 = .ok (.getfield 15, 3) := by decide +kernel
theorem dX4_takeLowestWavelengths_131 : decode cX4_takeLowestWavelengths 131 = .ok (.iload 6, 2) := by decide +kernel
theorem dX4_takeLowestWavelengths_133 : decode cX4_takeLowestWavelengths 133 = .ok (.iaload, 1) := by decide +kernel
theorem dX4_takeLowestWavelengths_134 : decode cX4_takeLowestWavelengths 134 = .ok (.iload 5, 2) := by decide +kernel
theorem dX4_takeLowestWavelengths_136 : decode cX4_takeLowestWavelengths 136 = .ok (.invokevirtual 119, 3) := by decide +kernel
theorem dX4_takeLowestWavelengths_139 : decode cX4_takeLowestWavelengths 139 = .ok (.iinc 6 1, 3) := by decide +kernel
theorem dX4_takeLowestWavelengths_142 : decode cX4_takeLowestWavelengths 142 = .ok (.goto (-110), 3) := by decide +kernel
theorem dX4_takeLowestWavelengths_145 : decode cX4_takeLowestWavelengths 145 = .ok (.return_, 1) := by decide +kernel
set_option maxRecDepth 20000 in
theorem ggX4_countConversionsBackwards_X4_leadingOn : GoodIn wsX4_countConversionsBackwards wsX4_leadingOn := goodIn_r _ [7, 8, 1, 9, 10, 11, 12, 13, 14, 15, 16, 17, 18, 19, 20, 21] (by decide +kernel) (by decide +kernel)
set_option maxRecDepth 20000 in
theorem gX4_countConversionsBackwards_X4_leadingOn : GoodIn wsX4_countConversionsBackwards (wsV RX4 122 RX4 yX4_leadingOn wsX4_leadingOn) := goodIn_app (goodIn_of _ (by decide +kernel)) ggX4_countConversionsBackwards_X4_leadingOn
theorem dX4_countConversionsBackwards_0 : decode cX4_countConversionsBackwards 0 = .ok (.iload_n 1, 1) := by decide +kernel
theorem dX4_countConversionsBackwards_1 : decode cX4_countConversionsBackwards 1 = .ok (.iconst 1, 1) := by decide +kernel
theorem dX4_countConversionsBackwards_2 : decode cX4_countConversionsBackwards 2 = .ok (.isub, 1) := by decide +kernel
theorem dX4_countConversionsBackwards_3 : decode cX4_countConversionsBackwards 3 = .ok (.istore_n 2, 1) := by decide +kernel
theorem dX4_countConversionsBackwards_4 : decode cX4_countConversionsBackwards 4 = .ok (.iload_n 2, 1) := by decide +kernel
theorem dX4_countConversionsBackwards_5 : decode cX4_countConversionsBackwards 5 = .ok (.ifCond .lt 46, 3) := by decide +kernel
theorem dX4_countConversionsBackwards_8 : decode cX4_countConversionsBackwards 8 = .ok (.iconst 0, 1) := by decide +kernel
theorem dX4_countConversionsBackwards_9 : decode cX4_countConversionsBackwards 9 = .ok (.istore_n 3, 1) := by decide +kernel
theorem dX4_countConversionsBackwards_10 : decode cX4_countConversionsBackwards 10 = .ok (.iload_n 3, 1) := by decide +kernel
theorem dX4_countConversionsBackwards_11 : decode cX4_countConversionsBackwards 11 = .ok (.iload_n 1, 1) := by decide +kernel
theorem dX4_countConversionsBackwards_12 : decode cX4_countConversionsBackwards 12 = .ok (.if_icmp .ge 33, 3) := by decide +kernel
theorem dX4_countConversionsBackwards_15 : decode cX4_countConversionsBackwards 15 = .ok (.aload_n 0, 1) := by decide +kernel
theorem dX4_countConversionsBackwards_16 : decode cX4_countConversionsBackwards 16 = .ok (.getfield 27, 3) := by decide +kernel
theorem dX4_countConversionsBackwards_19 : decode cX4_countConversionsBackwards 19 = .ok (.iload_n 2, 1) := by decide +kernel
theorem dX4_countConversionsBackwards_20 : decode cX4_countConversionsBackwards 20 = .ok (.aaload, 1) := by decide +kernel
theorem dX4_countConversionsBackwards_21 : decode cX4_countConversionsBackwards 21 = .ok (.iload_n 3, 1) := by decide +kernel
theorem dX4_countConversionsBackwards_22 : decode cX4_countConversionsBackwards 22 = .ok (.aload_n 0, 1) := by decide +kernel
theorem dX4_countConversionsBackwards_23 : decode cX4_countConversionsBackwards 23 = .ok (.getfield 18, 3) := by decide +kernel
theorem dX4_countConversionsBackwards_26 : decode cX4_countConversionsBackwards 26 = .ok (.iload_n 2, 1) := by decide +kernel
theorem dX4_countConversionsBackwards_27 : decode cX4_countConversionsBackwards 27 = .ok (.iaload, 1) := by decide +kernel
theorem dX4_countConversionsBackwards_28 : decode cX4_countConversionsBackwards 28 = .ok (.aload_n 0, 1) := by decide +kernel
theorem dX4_countConversionsBackwards_29 : decode cX4_countConversionsBackwards 29 = .ok (.iload_n 2, 1) := by decide +kernel
theorem dX4_countConversionsBackwards_30 : decode cX4_countConversionsBackwards 30 = .ok (.iconst 1, 1) := by decide +kernel
theorem dX4_countConversionsBackwards_31 : decode cX4_countConversionsBackwards 31 = .ok (.iadd, 1) := by decide +kernel
theorem dX4_countConversionsBackwards_32 : decode cX4_countConversionsBackwards 32 = .ok (.iload_n 1, 1) := by decide +kernel
theorem dX4_countConversionsBackwards_33 : decode cX4_countConversionsBackwards 33 = .ok (.iload_n 3, 1) := by decide +kernel
theorem dX4_countConversionsBackwards_34 : decode cX4_countConversionsBackwards 34 = .ok (.invokevirtual 122, 3) := by decide +kernel
theorem dX4_countConversionsBackwards_37 : decode cX4_countConversionsBackwards 37 = .ok (.iand, 1) := by decide +kernel
theorem dX4_countConversionsBackwards_38 : decode cX4_countConversionsBackwards 38 = .ok (.iastore, 1) := by decide +kernel
theorem dX4_countConversionsBackwards_39 : decode cX4_countConversionsBackwards 39 = .ok (.iinc 3 1, 3) := by decide +kernel
theorem dX4_countConversionsBackwards_42 : decode cX4_countConversionsBackwards 42 = .ok (.goto (-32), 3) := by decide +kernel
theorem dX4_countConversionsBackwards_45 : decode cX4_countConversionsBackwards 45 = .ok (.iinc 2 (-1), 3) := by decide +kernel
theorem dX4_countConversionsBackwards_48 : decode cX4_countConversionsBackwards 48 = .ok (.goto (-44), 3) := by decide +kernel
theorem dX4_countConversionsBackwards_51 : decode cX4_countConversionsBackwards 51 = .ok (.return_, 1) := by decide +kernel
theorem dX4_leadingOn_0 : decode cX4_leadingOn 0 = .ok (.iload_n 1, 1) := by decide +kernel
theorem dX4_leadingOn_1 : decode cX4_leadingOn 1 = .ok (.iload_n 2, 1) := by decide +kernel
theorem dX4_leadingOn_2 : decode cX4_leadingOn 2 = .ok (.if_icmp .ge 9, 3) := by decide +kernel
theorem dX4_leadingOn_5 : decode cX4_leadingOn 5 = .ok (.iload_n 1, 1) := by decide +kernel
theorem dX4_leadingOn_6 : decode cX4_leadingOn 6 = .ok (.bipush 7, 2) := by decide +kernel
theorem dX4_leadingOn_8 : decode cX4_leadingOn 8 = .ok (.if_icmp .lt 7, 3) := by decide +kernel
theorem dX4_leadingOn_11 : decode cX4_leadingOn 11 = .ok (.sipush 255, 3) := by decide +kernel
theorem dX4_leadingOn_14 : decode cX4_leadingOn 14 = .ok (.ireturn, 1) := by decide +kernel
theorem dX4_leadingOn_15 : decode cX4_leadingOn 15 = .ok (.iload_n 3, 1) := by decide +kernel
theorem dX4_leadingOn_16 : decode cX4_leadingOn 16 = .ok (.ifCond .le 29, 3) := by decide +kernel
theorem dX4_leadingOn_19 : decode cX4_leadingOn 19 = .ok (.aload_n 0, 1) := by decide +kernel
theorem dX4_leadingOn_20 : decode cX4_leadingOn 20 = .ok (.getfield 21, 3) := by decide +kernel
theorem dX4_leadingOn_23 : decode cX4_leadingOn 23 = .ok (.iload_n 1, 1) := by decide +kernel
theorem dX4_leadingOn_24 : decode cX4_leadingOn 24 = .ok (.baload, 1) := by decide +kernel
theorem dX4_leadingOn_25 : decode cX4_leadingOn 25 = .ok (.ifCond .eq 20, 3) := by decide +kernel
theorem dX4_leadingOn_28 : decode cX4_leadingOn 28 = .ok (.aload_n 0, 1) := by decide +kernel
theorem dX4_leadingOn_29 : decode cX4_leadingOn 29 = .ok (.getfield 27, 3) := by decide +kernel
theorem dX4_leadingOn_32 : decode cX4_leadingOn 32 = .ok (.iload_n 1, 1) := by decide +kernel
theorem dX4_leadingOn_33 : decode cX4_leadingOn 33 = .ok (.aaload, 1) := by decide +kernel
theorem dX4_leadingOn_34 : decode cX4_leadingOn 34 = .ok (.iload_n 3, 1) := by decide +kernel
theorem dX4_leadingOn_35 : decode cX4_leadingOn 35 = .ok (.iconst 1, 1) := by decide +kernel
theorem dX4_leadingOn_36 : decode cX4_leadingOn 36 = .ok (.isub, 1) := by decide +kernel
theorem dX4_leadingOn_37 : decode cX4_leadingOn 37 = .ok (.iaload, 1) := by decide +kernel
theorem dX4_leadingOn_38 : decode cX4_leadingOn 38 = .ok (.ifCond .eq 7, 3) := by decide +kernel
theorem dX4_leadingOn_41 : decode cX4_leadingOn 41 = .ok (.sipush 255, 3) := by decide +kernel
theorem dX4_leadingOn_44 : decode cX4_leadingOn 44 = .ok (.ireturn, 1) := by decide +kernel
theorem dX4_leadingOn_45 : decode cX4_leadingOn 45 = .ok (.aload_n 0, 1) := by decide +kernel
theorem dX4_leadingOn_46 : decode cX4_leadingOn 46 = .ok (.getfield 27, 3) := by decide +kernel
theorem dX4_leadingOn_49 : decode cX4_leadingOn 49 = .ok (.iload_n 1, 1) := by decide +kernel
theorem dX4_leadingOn_50 : decode cX4_leadingOn 50 = .ok (.aaload, 1) := by decide +kernel
theorem dX4_leadingOn_51 : decode cX4_leadingOn 51 = .ok (.iload_n 3, 1) := by decide +kernel
theorem dX4_leadingOn_52 : decode cX4_leadingOn 52 = .ok (.iaload, 1) := by decide +kernel
theorem dX4_leadingOn_53 : decode cX4_leadingOn 53 = .ok (.ireturn, 1) := by decide +kernel
end
section
def wp_X2_startAgain (S : St) (x1 : Int32) (x2 : Int32) (P : St → Prop) : Prop := (∀ S2 : St, S2 = sI S 1 0 x1 → (∀ S7 : St, S7 = sI S2 1 1 x2 → (∀ S12 : St, S12 = sI S7 1 2 0 → (∀ S17 : St, S17 = sI S12 1 3 0 → (∀ S22 : St, S22 = sI S17 1 4 0 → (P S22))))))
abbrev rm_X2_startAgain : Room := { frames := 0, cells := 0, slots := 0, locals := 0 }
set_option maxHeartbeats 4000000 in
set_option maxRecDepth 100000 in
theorem c_X2_startAgain (l : Launch) (D : va_G) (cy : Nat → ClassId) (b0 : Nat) (S : St) (x1 : Int32) (x2 : Int32)  (P : St → Prop) (hw : wp_X2_startAgain S x1 x2 P) : Met l yX2_startAgain wsX2_startAgain rm_X2_startAgain (va_Pc [.ref (b0 + 1), .int x1, .int x2] (Wd D cy b0 S)) (QC (Pv P) (Wb D cy b0) b0) 0 0 (AA b0) := by
  refine Met.ofW (cc := cX2_startAgain) (maxL := 3) (ret := none) (by decide) rfl ?_
  intro p e s m args below meth c s₁ B hml hv
  obtain ⟨hargs, hW, hP, hF⟩ := hv
  have hx := B.exec
  have hb := B.bytes
  have hr := B.returns
  have hts := atoms_spec (ws := wsX2_startAgain) B.pre
  have hown : s.vm.findClass RX2 = some m.cls := findClass_of_methodNamed B.named
  have hlocks := B.notSynchronized
  have hK := hW.1
  have hS : va_S (AA b0) s.heap s.heap [] := va_S.rf
  have hE : entryFrame m args 3 = F0 m 0 ((lg_sl [.ref (b0 + 1), .int x1, .int x2] ++ List.replicate (3 - (lg_sl [.ref (b0 + 1), .int x1, .int x2]).length) Slot.unset).toArray) [] := by rw [hargs]; exact lg_entry_eq m _ _
  rw [hE]
  have hl := lv_entry [.ref (b0 + 1), .int x1, .int x2] (n := 3) (Nat.le_of_ble_eq_true rfl)
  generalize (lg_sl [.ref (b0 + 1), .int x1, .int x2] ++ List.replicate (3 - (lg_sl [.ref (b0 + 1), .int x1, .int x2]).length) Slot.unset).toArray = ls at hl ⊢
  have hl : lv_has ls 3 [(0, .ref (b0 + 1)), (1, .int x1), (2, .int x2)] := hl
  unfold wp_X2_startAgain at hw
  refine lv_aload_n hx hb dX2_startAgain_0 rfl (lv_at hl 0 rfl) ?_
  refine lv_iload_n hx hb dX2_startAgain_1 rfl (lv_at hl 1 rfl) ?_
  refine pf_2_0 (k := 1) (x := x1) hx hb hts (by decide +kernel) hown hK hP hS (by decide) (kk_1) (hts (.fieldLink RX2 9 "Opticmesh$Network" "nodeCount" "I") (by decide +kernel)) dX2_startAgain_2 (fun H locs hz hP hS => ?_)
  have hF : Fx (sI S 1 0 x1) := hF
  generalize eS2 : sI S 1 0 x1 = S2 at hP hF
  have hw := hw S2 eS2.symm
  refine lv_aload_n hx hb dX2_startAgain_5 rfl (lv_at hl 0 rfl) ?_
  refine lv_iload_n hx hb dX2_startAgain_6 rfl (lv_at hl 2 rfl) ?_
  refine pf_2_1 (k := 1) (x := x2) hx hb hts (by decide +kernel) hown hK hP hS (by decide) (kk_1) (hts (.fieldLink RX2 15 "Opticmesh$Network" "wavelengthCount" "I") (by decide +kernel)) dX2_startAgain_7 (fun H locs hz hP hS => ?_)
  have hF : Fx (sI S2 1 1 x2) := hF
  generalize eS7 : sI S2 1 1 x2 = S7 at hP hF
  have hw := hw S7 eS7.symm
  refine lv_aload_n hx hb dX2_startAgain_10 rfl (lv_at hl 0 rfl) ?_
  refine lv_iconst (v := 0) hx hb dX2_startAgain_11 (by decide) ?_
  refine pf_2_2 (k := 1) (x := 0) hx hb hts (by decide +kernel) hown hK hP hS (by decide) (kk_1) (hts (.fieldLink RX2 28 "Opticmesh$Network" "fibreCount" "I") (by decide +kernel)) dX2_startAgain_12 (fun H locs hz hP hS => ?_)
  have hF : Fx (sI S7 1 2 0) := hF
  generalize eS12 : sI S7 1 2 0 = S12 at hP hF
  have hw := hw S12 eS12.symm
  refine lv_aload_n hx hb dX2_startAgain_15 rfl (lv_at hl 0 rfl) ?_
  refine lv_iconst (v := 0) hx hb dX2_startAgain_16 (by decide) ?_
  refine pf_2_3 (k := 1) (x := 0) hx hb hts (by decide +kernel) hown hK hP hS (by decide) (kk_1) (hts (.fieldLink RX2 31 "Opticmesh$Network" "converters" "I") (by decide +kernel)) dX2_startAgain_17 (fun H locs hz hP hS => ?_)
  have hF : Fx (sI S12 1 3 0) := hF
  generalize eS17 : sI S12 1 3 0 = S17 at hP hF
  have hw := hw S17 eS17.symm
  refine lv_aload_n hx hb dX2_startAgain_20 rfl (lv_at hl 0 rfl) ?_
  refine lv_iconst (v := 0) hx hb dX2_startAgain_21 (by decide) ?_
  refine pf_2_4 (k := 1) (x := 0) hx hb hts (by decide +kernel) hown hK hP hS (by decide) (kk_1) (hts (.fieldLink RX2 34 "Opticmesh$Network" "cutFibres" "I") (by decide +kernel)) dX2_startAgain_22 (fun H locs hz hP hS => ?_)
  have hF : Fx (sI S17 1 4 0) := hF
  generalize eS22 : sI S17 1 4 0 = S22 at hP hF
  have hw := hw S22 eS22.symm
  exact q_vret hx hb hr hP hF hS hw dX2_startAgain_25 hlocks
def wp_X2_join (S : St) (x1 : Int32) (x2 : Int32) (x3 : Int32) (P : Int32 → St → Prop) : Prop := (∀ y4 : Int32, y4 = (gI S 1 2) → (if y4 < 14 then (vp_in y4 14 ∧ ∀ S22 : St, S22 = sI S 2 (y4.toNatClampNeg) x1 → (vp_in y4 14 ∧ ∀ S30 : St, S30 = sI S22 3 (y4.toNatClampNeg) x2 → (vp_in y4 14 ∧ ∀ S38 : St, S38 = sI S30 4 (y4.toNatClampNeg) x3 → (∀ S46 : St, S46 = sI S38 1 2 ((gI S38 1 2) + 1) → (P y4 S46))))) else (P (-1) S)))
abbrev rm_X2_join : Room := { frames := 0, cells := 0, slots := 0, locals := 0 }
set_option maxHeartbeats 4000000 in
set_option maxRecDepth 100000 in
theorem c_X2_join (l : Launch) (D : va_G) (cy : Nat → ClassId) (b0 : Nat) (S : St) (x1 : Int32) (x2 : Int32) (x3 : Int32)  (P : Int32 → St → Prop) (hw : wp_X2_join S x1 x2 x3 P) : Met l yX2_join wsX2_join rm_X2_join (va_Pc [.ref (b0 + 1), .int x1, .int x2, .int x3] (Wd D cy b0 S)) (QC (Pi P) (Wb D cy b0) b0) 0 0 (AA b0) := by
  refine Met.ofW (cc := cX2_join) (maxL := 5) (ret := (some .int)) (by decide) rfl ?_
  intro p e s m args below meth c s₁ B hml hv
  obtain ⟨hargs, hW, hP, hF⟩ := hv
  have hx := B.exec
  have hb := B.bytes
  have hr := B.returns
  have hts := atoms_spec (ws := wsX2_join) B.pre
  have hown : s.vm.findClass RX2 = some m.cls := findClass_of_methodNamed B.named
  have hlocks := B.notSynchronized
  have hK := hW.1
  have hS : va_S (AA b0) s.heap s.heap [] := va_S.rf
  have hE : entryFrame m args 5 = F0 m 0 ((lg_sl [.ref (b0 + 1), .int x1, .int x2, .int x3] ++ List.replicate (5 - (lg_sl [.ref (b0 + 1), .int x1, .int x2, .int x3]).length) Slot.unset).toArray) [] := by rw [hargs]; exact lg_entry_eq m _ _
  rw [hE]
  have hl := lv_entry [.ref (b0 + 1), .int x1, .int x2, .int x3] (n := 5) (Nat.le_of_ble_eq_true rfl)
  generalize (lg_sl [.ref (b0 + 1), .int x1, .int x2, .int x3] ++ List.replicate (5 - (lg_sl [.ref (b0 + 1), .int x1, .int x2, .int x3]).length) Slot.unset).toArray = ls at hl ⊢
  have hl : lv_has ls 5 [(0, .ref (b0 + 1)), (1, .int x1), (2, .int x2), (3, .int x3)] := hl
  unfold wp_X2_join at hw
  refine lv_aload_n hx hb dX2_join_0 rfl (lv_at hl 0 rfl) ?_
  refine gf_2_2 (k := 1) hx hb hts (by decide +kernel) hown hK hP (by decide) (kk_1) (hts (.fieldLink RX2 28 "Opticmesh$Network" "fibreCount" "I") (by decide +kernel)) dX2_join_1 ?_
  refine lv_topi (fun y4 e4 => ?_)
  have hw := hw y4 e4
  refine lv_istore (lv' := [(4, .int y4), (0, .ref (b0 + 1)), (1, .int x1), (2, .int x2), (3, .int x3)]) hx hb dX2_join_4 hl (by decide) rfl (fun ls hl => ?_)
  refine lv_iload hx hb dX2_join_6 (lv_at hl 0 rfl) ?_
  refine lv_bipush (v := 14) hx hb dX2_join_8 (by decide) ?_
  refine lv_icmp_lt (x := y4) (y := 14) (tgt := 15) hx hb dX2_join_10 (by decide) (fun c10 => ?_) (fun c10 => ?_)
  · rw [if_pos c10] at hw
    refine lv_aload_n hx hb dX2_join_15 rfl (lv_at hl 1 rfl) ?_
    refine gf_2_5 (k := 1) hx hb hts (by decide +kernel) hown hK hP (by decide) (kk_1) (q := 2) (hF.1 1 5 2 ff_1_5) (hts (.fieldLink RX2 18 "Opticmesh$Network" "ones" "[I") (by decide +kernel)) dX2_join_16 ?_
    refine lv_iload hx hb dX2_join_19 (lv_at hl 0 rfl) ?_
    refine lv_iload_n hx hb dX2_join_21 rfl (lv_at hl 2 rfl) ?_
    obtain ⟨h22, hw⟩ := hw
    refine q_iast (k := 2) (n := 14) (i := y4) (x := x1) hx hb hK hP hS (by decide) (kk_2) (ll_2) h22 dX2_join_22 (fun H locs hz hP hS => ?_)
    have hF : Fx (sI S 2 (y4.toNatClampNeg) x1) := hF
    generalize eS22 : sI S 2 (y4.toNatClampNeg) x1 = S22 at hP hF
    have hw := hw S22 eS22.symm
    refine lv_aload_n hx hb dX2_join_23 rfl (lv_at hl 1 rfl) ?_
    refine gf_2_6 (k := 1) hx hb hts (by decide +kernel) hown hK hP (by decide) (kk_1) (q := 3) (hF.1 1 6 3 ff_1_6) (hts (.fieldLink RX2 22 "Opticmesh$Network" "others" "[I") (by decide +kernel)) dX2_join_24 ?_
    refine lv_iload hx hb dX2_join_27 (lv_at hl 0 rfl) ?_
    refine lv_iload_n hx hb dX2_join_29 rfl (lv_at hl 3 rfl) ?_
    obtain ⟨h30, hw⟩ := hw
    refine q_iast (k := 3) (n := 14) (i := y4) (x := x2) hx hb hK hP hS (by decide) (kk_3) (ll_3) h30 dX2_join_30 (fun H locs hz hP hS => ?_)
    have hF : Fx (sI S22 3 (y4.toNatClampNeg) x2) := hF
    generalize eS30 : sI S22 3 (y4.toNatClampNeg) x2 = S30 at hP hF
    have hw := hw S30 eS30.symm
    refine lv_aload_n hx hb dX2_join_31 rfl (lv_at hl 1 rfl) ?_
    refine gf_2_7 (k := 1) hx hb hts (by decide +kernel) hown hK hP (by decide) (kk_1) (q := 4) (hF.1 1 7 4 ff_1_7) (hts (.fieldLink RX2 25 "Opticmesh$Network" "lengths" "[I") (by decide +kernel)) dX2_join_32 ?_
    refine lv_iload hx hb dX2_join_35 (lv_at hl 0 rfl) ?_
    refine lv_iload_n hx hb dX2_join_37 rfl (lv_at hl 4 rfl) ?_
    obtain ⟨h38, hw⟩ := hw
    refine q_iast (k := 4) (n := 14) (i := y4) (x := x3) hx hb hK hP hS (by decide) (kk_4) (ll_4) h38 dX2_join_38 (fun H locs hz hP hS => ?_)
    have hF : Fx (sI S30 4 (y4.toNatClampNeg) x3) := hF
    generalize eS38 : sI S30 4 (y4.toNatClampNeg) x3 = S38 at hP hF
    have hw := hw S38 eS38.symm
    refine lv_aload_n hx hb dX2_join_39 rfl (lv_at hl 1 rfl) ?_
    refine lv_dup hx hb dX2_join_40 rfl ?_
    refine gf_2_2 (k := 1) hx hb hts (by decide +kernel) hown hK hP (by decide) (kk_1) (hts (.fieldLink RX2 28 "Opticmesh$Network" "fibreCount" "I") (by decide +kernel)) dX2_join_41 ?_
    refine lv_iconst (v := 1) hx hb dX2_join_44 (by decide) ?_
    refine lv_iadd hx hb dX2_join_45 ?_
    refine pf_2_2 (k := 1) (x := ((gI S38 1 2) + 1)) hx hb hts (by decide +kernel) hown hK hP hS (by decide) (kk_1) (hts (.fieldLink RX2 28 "Opticmesh$Network" "fibreCount" "I") (by decide +kernel)) dX2_join_46 (fun H locs hz hP hS => ?_)
    have hF : Fx (sI S38 1 2 ((gI S38 1 2) + 1)) := hF
    generalize eS46 : sI S38 1 2 ((gI S38 1 2) + 1) = S46 at hP hF
    have hw := hw S46 eS46.symm
    refine lv_iload hx hb dX2_join_49 (lv_at hl 0 rfl) ?_
    exact q_iret hx hb hr hP hF hS hw dX2_join_51 hlocks
  · rw [if_neg c10] at hw
    refine lv_iconst (v := (-1)) hx hb dX2_join_13 (by decide) ?_
    exact q_iret hx hb hr hP hF hS hw dX2_join_14 hlocks
def wp_X2_hasNode (S : St) (x1 : Int32) (P : Bool → St → Prop) : Prop := (if x1 < 0 then (P false S) else (if (gI S 1 0) ≤ x1 then (P false S) else (P true S)))
abbrev rm_X2_hasNode : Room := { frames := 0, cells := 0, slots := 0, locals := 0 }
set_option maxHeartbeats 4000000 in
set_option maxRecDepth 100000 in
theorem c_X2_hasNode (l : Launch) (D : va_G) (cy : Nat → ClassId) (b0 : Nat) (S : St) (x1 : Int32)  (P : Bool → St → Prop) (hw : wp_X2_hasNode S x1 P) : Met l yX2_hasNode wsX2_hasNode rm_X2_hasNode (va_Pc [.ref (b0 + 1), .int x1] (Wd D cy b0 S)) (QC (Pz P) (Wb D cy b0) b0) 0 0 (AA b0) := by
  refine Met.ofW (cc := cX2_hasNode) (maxL := 2) (ret := (some .boolean)) (by decide) rfl ?_
  intro p e s m args below meth c s₁ B hml hv
  obtain ⟨hargs, hW, hP, hF⟩ := hv
  have hx := B.exec
  have hb := B.bytes
  have hr := B.returns
  have hts := atoms_spec (ws := wsX2_hasNode) B.pre
  have hown : s.vm.findClass RX2 = some m.cls := findClass_of_methodNamed B.named
  have hlocks := B.notSynchronized
  have hK := hW.1
  have hS : va_S (AA b0) s.heap s.heap [] := va_S.rf
  have hE : entryFrame m args 2 = F0 m 0 ((lg_sl [.ref (b0 + 1), .int x1] ++ List.replicate (2 - (lg_sl [.ref (b0 + 1), .int x1]).length) Slot.unset).toArray) [] := by rw [hargs]; exact lg_entry_eq m _ _
  rw [hE]
  have hl := lv_entry [.ref (b0 + 1), .int x1] (n := 2) (Nat.le_of_ble_eq_true rfl)
  generalize (lg_sl [.ref (b0 + 1), .int x1] ++ List.replicate (2 - (lg_sl [.ref (b0 + 1), .int x1]).length) Slot.unset).toArray = ls at hl ⊢
  have hl : lv_has ls 2 [(0, .ref (b0 + 1)), (1, .int x1)] := hl
  unfold wp_X2_hasNode at hw
  refine lv_iload_n hx hb dX2_hasNode_0 rfl (lv_at hl 1 rfl) ?_
  refine lv_if_lt (x := x1) (tgt := 16) hx hb dX2_hasNode_1 (by decide) (fun c1 => ?_) (fun c1 => ?_)
  · rw [if_pos c1] at hw
    refine lv_iconst (v := 0) hx hb dX2_hasNode_16 (by decide) ?_
    exact q_zret (v := false) hx hb hr hP hF hS hw dX2_hasNode_17 hlocks
  · rw [if_neg c1] at hw
    refine lv_iload_n hx hb dX2_hasNode_4 rfl (lv_at hl 1 rfl) ?_
    refine lv_aload_n hx hb dX2_hasNode_5 rfl (lv_at hl 0 rfl) ?_
    refine gf_2_0 (k := 1) hx hb hts (by decide +kernel) hown hK hP (by decide) (kk_1) (hts (.fieldLink RX2 9 "Opticmesh$Network" "nodeCount" "I") (by decide +kernel)) dX2_hasNode_6 ?_
    refine lv_icmp_ge (x := x1) (y := (gI S 1 0)) (tgt := 16) hx hb dX2_hasNode_9 (by decide) (fun c9 => ?_) (fun c9 => ?_)
    · rw [if_pos c9] at hw
      refine lv_iconst (v := 0) hx hb dX2_hasNode_16 (by decide) ?_
      exact q_zret (v := false) hx hb hr hP hF hS hw dX2_hasNode_17 hlocks
    · rw [if_neg c9] at hw
      refine lv_iconst (v := 1) hx hb dX2_hasNode_12 (by decide) ?_
      refine lv_goto (tgt := 17) hx hb dX2_hasNode_13 (by decide) ?_
      exact q_zret (v := true) hx hb hr hP hF hS hw dX2_hasNode_17 hlocks
def wp_X2_isCut (S : St) (x1 : Int32) (P : Bool → St → Prop) : Prop := (if (((gI S 1 4) >>> (x1 &&& 31)) &&& 1) = 0 then (P false S) else (P true S))
abbrev rm_X2_isCut : Room := { frames := 0, cells := 0, slots := 0, locals := 0 }
set_option maxHeartbeats 4000000 in
set_option maxRecDepth 100000 in
theorem c_X2_isCut (l : Launch) (D : va_G) (cy : Nat → ClassId) (b0 : Nat) (S : St) (x1 : Int32)  (P : Bool → St → Prop) (hw : wp_X2_isCut S x1 P) : Met l yX2_isCut wsX2_isCut rm_X2_isCut (va_Pc [.ref (b0 + 1), .int x1] (Wd D cy b0 S)) (QC (Pz P) (Wb D cy b0) b0) 0 0 (AA b0) := by
  refine Met.ofW (cc := cX2_isCut) (maxL := 2) (ret := (some .boolean)) (by decide) rfl ?_
  intro p e s m args below meth c s₁ B hml hv
  obtain ⟨hargs, hW, hP, hF⟩ := hv
  have hx := B.exec
  have hb := B.bytes
  have hr := B.returns
  have hts := atoms_spec (ws := wsX2_isCut) B.pre
  have hown : s.vm.findClass RX2 = some m.cls := findClass_of_methodNamed B.named
  have hlocks := B.notSynchronized
  have hK := hW.1
  have hS : va_S (AA b0) s.heap s.heap [] := va_S.rf
  have hE : entryFrame m args 2 = F0 m 0 ((lg_sl [.ref (b0 + 1), .int x1] ++ List.replicate (2 - (lg_sl [.ref (b0 + 1), .int x1]).length) Slot.unset).toArray) [] := by rw [hargs]; exact lg_entry_eq m _ _
  rw [hE]
  have hl := lv_entry [.ref (b0 + 1), .int x1] (n := 2) (Nat.le_of_ble_eq_true rfl)
  generalize (lg_sl [.ref (b0 + 1), .int x1] ++ List.replicate (2 - (lg_sl [.ref (b0 + 1), .int x1]).length) Slot.unset).toArray = ls at hl ⊢
  have hl : lv_has ls 2 [(0, .ref (b0 + 1)), (1, .int x1)] := hl
  unfold wp_X2_isCut at hw
  refine lv_aload_n hx hb dX2_isCut_0 rfl (lv_at hl 0 rfl) ?_
  refine gf_2_4 (k := 1) hx hb hts (by decide +kernel) hown hK hP (by decide) (kk_1) (hts (.fieldLink RX2 34 "Opticmesh$Network" "cutFibres" "I") (by decide +kernel)) dX2_isCut_1 ?_
  refine lv_iload_n hx hb dX2_isCut_4 rfl (lv_at hl 1 rfl) ?_
  refine lv_ishr hx hb dX2_isCut_5 ?_
  refine lv_iconst (v := 1) hx hb dX2_isCut_6 (by decide) ?_
  refine lv_iand hx hb dX2_isCut_7 ?_
  refine lv_if_eq (x := (((gI S 1 4) >>> (x1 &&& 31)) &&& 1)) (tgt := 15) hx hb dX2_isCut_8 (by decide) (fun c8 => ?_) (fun c8 => ?_)
  · rw [if_pos c8] at hw
    refine lv_iconst (v := 0) hx hb dX2_isCut_15 (by decide) ?_
    exact q_zret (v := false) hx hb hr hP hF hS hw dX2_isCut_16 hlocks
  · rw [if_neg c8] at hw
    refine lv_iconst (v := 1) hx hb dX2_isCut_11 (by decide) ?_
    refine lv_goto (tgt := 16) hx hb dX2_isCut_12 (by decide) ?_
    exact q_zret (v := true) hx hb hr hP hF hS hw dX2_isCut_16 hlocks
def wp_X2_hasFibre (S : St) (x1 : Int32) (P : Bool → St → Prop) : Prop := (if x1 < 0 then (P false S) else (if (gI S 1 2) ≤ x1 then (P false S) else (P true S)))
abbrev rm_X2_hasFibre : Room := { frames := 0, cells := 0, slots := 0, locals := 0 }
set_option maxHeartbeats 4000000 in
set_option maxRecDepth 100000 in
theorem c_X2_hasFibre (l : Launch) (D : va_G) (cy : Nat → ClassId) (b0 : Nat) (S : St) (x1 : Int32)  (P : Bool → St → Prop) (hw : wp_X2_hasFibre S x1 P) : Met l yX2_hasFibre wsX2_hasFibre rm_X2_hasFibre (va_Pc [.ref (b0 + 1), .int x1] (Wd D cy b0 S)) (QC (Pz P) (Wb D cy b0) b0) 0 0 (AA b0) := by
  refine Met.ofW (cc := cX2_hasFibre) (maxL := 2) (ret := (some .boolean)) (by decide) rfl ?_
  intro p e s m args below meth c s₁ B hml hv
  obtain ⟨hargs, hW, hP, hF⟩ := hv
  have hx := B.exec
  have hb := B.bytes
  have hr := B.returns
  have hts := atoms_spec (ws := wsX2_hasFibre) B.pre
  have hown : s.vm.findClass RX2 = some m.cls := findClass_of_methodNamed B.named
  have hlocks := B.notSynchronized
  have hK := hW.1
  have hS : va_S (AA b0) s.heap s.heap [] := va_S.rf
  have hE : entryFrame m args 2 = F0 m 0 ((lg_sl [.ref (b0 + 1), .int x1] ++ List.replicate (2 - (lg_sl [.ref (b0 + 1), .int x1]).length) Slot.unset).toArray) [] := by rw [hargs]; exact lg_entry_eq m _ _
  rw [hE]
  have hl := lv_entry [.ref (b0 + 1), .int x1] (n := 2) (Nat.le_of_ble_eq_true rfl)
  generalize (lg_sl [.ref (b0 + 1), .int x1] ++ List.replicate (2 - (lg_sl [.ref (b0 + 1), .int x1]).length) Slot.unset).toArray = ls at hl ⊢
  have hl : lv_has ls 2 [(0, .ref (b0 + 1)), (1, .int x1)] := hl
  unfold wp_X2_hasFibre at hw
  refine lv_iload_n hx hb dX2_hasFibre_0 rfl (lv_at hl 1 rfl) ?_
  refine lv_if_lt (x := x1) (tgt := 16) hx hb dX2_hasFibre_1 (by decide) (fun c1 => ?_) (fun c1 => ?_)
  · rw [if_pos c1] at hw
    refine lv_iconst (v := 0) hx hb dX2_hasFibre_16 (by decide) ?_
    exact q_zret (v := false) hx hb hr hP hF hS hw dX2_hasFibre_17 hlocks
  · rw [if_neg c1] at hw
    refine lv_iload_n hx hb dX2_hasFibre_4 rfl (lv_at hl 1 rfl) ?_
    refine lv_aload_n hx hb dX2_hasFibre_5 rfl (lv_at hl 0 rfl) ?_
    refine gf_2_2 (k := 1) hx hb hts (by decide +kernel) hown hK hP (by decide) (kk_1) (hts (.fieldLink RX2 28 "Opticmesh$Network" "fibreCount" "I") (by decide +kernel)) dX2_hasFibre_6 ?_
    refine lv_icmp_ge (x := x1) (y := (gI S 1 2)) (tgt := 16) hx hb dX2_hasFibre_9 (by decide) (fun c9 => ?_) (fun c9 => ?_)
    · rw [if_pos c9] at hw
      refine lv_iconst (v := 0) hx hb dX2_hasFibre_16 (by decide) ?_
      exact q_zret (v := false) hx hb hr hP hF hS hw dX2_hasFibre_17 hlocks
    · rw [if_neg c9] at hw
      refine lv_iconst (v := 1) hx hb dX2_hasFibre_12 (by decide) ?_
      refine lv_goto (tgt := 17) hx hb dX2_hasFibre_13 (by decide) ?_
      exact q_zret (v := true) hx hb hr hP hF hS hw dX2_hasFibre_17 hlocks
def wp_X2_acrossFrom (S : St) (x1 : Int32) (x2 : Int32) (P : Int32 → St → Prop) : Prop := (wp_X2_hasFibre S x2 (fun r2 S2 => (if r2 = true then (vp_in x2 14 ∧ (if (gI S2 2 (x2.toNatClampNeg)) = x1 then (vp_in x2 14 ∧ (P (gI S2 3 (x2.toNatClampNeg)) S2)) else (vp_in x2 14 ∧ (if (gI S2 3 (x2.toNatClampNeg)) = x1 then (vp_in x2 14 ∧ (P (gI S2 2 (x2.toNatClampNeg)) S2)) else (P (-1) S2))))) else (P (-1) S2))))
abbrev rm_X2_acrossFrom : Room := { frames := 1, cells := 0, slots := 0, locals := 21 }
set_option maxHeartbeats 4000000 in
set_option maxRecDepth 100000 in
theorem c_X2_acrossFrom (l : Launch) (D : va_G) (cy : Nat → ClassId) (b0 : Nat) (S : St) (x1 : Int32) (x2 : Int32)  (P : Int32 → St → Prop) (hw : wp_X2_acrossFrom S x1 x2 P) : Met l yX2_acrossFrom wsX2_acrossFrom rm_X2_acrossFrom (va_Pc [.ref (b0 + 1), .int x1, .int x2] (Wd D cy b0 S)) (QC (Pi P) (Wb D cy b0) b0) 0 0 (AA b0) := by
  refine Met.ofW (cc := cX2_acrossFrom) (maxL := 3) (ret := (some .int)) (by decide) rfl ?_
  intro p e s m args below meth c s₁ B hml hv
  obtain ⟨hargs, hW, hP, hF⟩ := hv
  have hx := B.exec
  have hb := B.bytes
  have hr := B.returns
  have hts := atoms_spec (ws := wsX2_acrossFrom) B.pre
  have hown : s.vm.findClass RX2 = some m.cls := findClass_of_methodNamed B.named
  have hlocks := B.notSynchronized
  have hK := hW.1
  have hS : va_S (AA b0) s.heap s.heap [] := va_S.rf
  have hE : entryFrame m args 3 = F0 m 0 ((lg_sl [.ref (b0 + 1), .int x1, .int x2] ++ List.replicate (3 - (lg_sl [.ref (b0 + 1), .int x1, .int x2]).length) Slot.unset).toArray) [] := by rw [hargs]; exact lg_entry_eq m _ _
  rw [hE]
  have hl := lv_entry [.ref (b0 + 1), .int x1, .int x2] (n := 3) (Nat.le_of_ble_eq_true rfl)
  generalize (lg_sl [.ref (b0 + 1), .int x1, .int x2] ++ List.replicate (3 - (lg_sl [.ref (b0 + 1), .int x1, .int x2]).length) Slot.unset).toArray = ls at hl ⊢
  have hl : lv_has ls 3 [(0, .ref (b0 + 1)), (1, .int x1), (2, .int x2)] := hl
  unfold wp_X2_acrossFrom at hw
  refine lv_aload_n hx hb dX2_acrossFrom_0 rfl (lv_at hl 0 rfl) ?_
  refine lv_iload_n hx hb dX2_acrossFrom_1 rfl (lv_at hl 2 rfl) ?_
  refine q_call (va_runV (As := [.int x2]) (rest := []) ⟨hx, hb, hml, hown, hts⟩ (c_X2_hasFibre l D cy b0 S x2 _ hw) (cwV 1 hts gX2_acrossFrom_X2_hasFibre rfl rfl rfl (by decide +kernel) ⟨(Nat.le_of_ble_eq_true rfl), (Nat.le_of_ble_eq_true rfl)⟩) (q_pV hW hP hF hS (k := 1) (ci := 2) (by decide) (cell_2 (kk_1)) rfl [.int x2]) rfl rfl hl.1 rfl (lv_room (Nat.le_of_ble_eq_true rfl)) dX2_acrossFrom_2 ⟨(Nat.le_of_ble_eq_true rfl), (Nat.le_of_ble_eq_true rfl)⟩) hS (fun v2 S2 t2 H locs hh hp hB hz hk9 hS => ?_)
  obtain ⟨r2, rfl, hw⟩ := hp
  have hP : HP D cy b0 NALL S2 H := by rw [← hh]; exact hB.1
  have hF := hB.2
  try dsimp only at hw
  refine W.eq (g2 := F0 m 5 ls [.int (b2i r2)]) rfl ?_
  refine lv_if_ne (x := b2i r2) (tgt := 10) hx hb dX2_acrossFrom_5 (by decide) (fun c5 => ?_) (fun c5 => ?_)
  · have c5 := b2i_n c5
    rw [if_pos c5] at hw
    refine lv_aload_n hx hb dX2_acrossFrom_10 rfl (lv_at hl 0 rfl) ?_
    refine gf_2_5 (k := 1) hx hb hts (by decide +kernel) hown hK hP (by decide) (kk_1) (q := 2) (hF.1 1 5 2 ff_1_5) (hts (.fieldLink RX2 18 "Opticmesh$Network" "ones" "[I") (by decide +kernel)) dX2_acrossFrom_11 ?_
    refine lv_iload_n hx hb dX2_acrossFrom_14 rfl (lv_at hl 2 rfl) ?_
    obtain ⟨h15, hw⟩ := hw
    refine q_iald (k := 2) (n := 14) (i := x2) hx hb hK hP (by decide) (kk_2) (ll_2) h15 dX2_acrossFrom_15 ?_
    refine lv_iload_n hx hb dX2_acrossFrom_16 rfl (lv_at hl 1 rfl) ?_
    refine lv_icmp_ne (x := (gI S2 2 (x2.toNatClampNeg))) (y := x1) (tgt := 27) hx hb dX2_acrossFrom_17 (by decide) (fun c17 => ?_) (fun c17 => ?_)
    · rw [if_neg c17] at hw
      refine lv_aload_n hx hb dX2_acrossFrom_27 rfl (lv_at hl 0 rfl) ?_
      refine gf_2_6 (k := 1) hx hb hts (by decide +kernel) hown hK hP (by decide) (kk_1) (q := 3) (hF.1 1 6 3 ff_1_6) (hts (.fieldLink RX2 22 "Opticmesh$Network" "others" "[I") (by decide +kernel)) dX2_acrossFrom_28 ?_
      refine lv_iload_n hx hb dX2_acrossFrom_31 rfl (lv_at hl 2 rfl) ?_
      obtain ⟨h32, hw⟩ := hw
      refine q_iald (k := 3) (n := 14) (i := x2) hx hb hK hP (by decide) (kk_3) (ll_3) h32 dX2_acrossFrom_32 ?_
      refine lv_iload_n hx hb dX2_acrossFrom_33 rfl (lv_at hl 1 rfl) ?_
      refine lv_icmp_ne (x := (gI S2 3 (x2.toNatClampNeg))) (y := x1) (tgt := 46) hx hb dX2_acrossFrom_34 (by decide) (fun c34 => ?_) (fun c34 => ?_)
      · rw [if_neg c34] at hw
        refine lv_iconst (v := (-1)) hx hb dX2_acrossFrom_46 (by decide) ?_
        exact q_iret hx hb hr hP hF hS hw dX2_acrossFrom_47 hlocks
      · rw [if_pos c34] at hw
        refine lv_aload_n hx hb dX2_acrossFrom_37 rfl (lv_at hl 0 rfl) ?_
        refine gf_2_5 (k := 1) hx hb hts (by decide +kernel) hown hK hP (by decide) (kk_1) (q := 2) (hF.1 1 5 2 ff_1_5) (hts (.fieldLink RX2 18 "Opticmesh$Network" "ones" "[I") (by decide +kernel)) dX2_acrossFrom_38 ?_
        refine lv_iload_n hx hb dX2_acrossFrom_41 rfl (lv_at hl 2 rfl) ?_
        obtain ⟨h42, hw⟩ := hw
        refine q_iald (k := 2) (n := 14) (i := x2) hx hb hK hP (by decide) (kk_2) (ll_2) h42 dX2_acrossFrom_42 ?_
        refine lv_goto (tgt := 47) hx hb dX2_acrossFrom_43 (by decide) ?_
        exact q_iret hx hb hr hP hF hS hw dX2_acrossFrom_47 hlocks
    · rw [if_pos c17] at hw
      refine lv_aload_n hx hb dX2_acrossFrom_20 rfl (lv_at hl 0 rfl) ?_
      refine gf_2_6 (k := 1) hx hb hts (by decide +kernel) hown hK hP (by decide) (kk_1) (q := 3) (hF.1 1 6 3 ff_1_6) (hts (.fieldLink RX2 22 "Opticmesh$Network" "others" "[I") (by decide +kernel)) dX2_acrossFrom_21 ?_
      refine lv_iload_n hx hb dX2_acrossFrom_24 rfl (lv_at hl 2 rfl) ?_
      obtain ⟨h25, hw⟩ := hw
      refine q_iald (k := 3) (n := 14) (i := x2) hx hb hK hP (by decide) (kk_3) (ll_3) h25 dX2_acrossFrom_25 ?_
      exact q_iret hx hb hr hP hF hS hw dX2_acrossFrom_26 hlocks
  · have c5 := b2i_z c5
    rw [if_neg c5] at hw
    refine lv_iconst (v := (-1)) hx hb dX2_acrossFrom_8 (by decide) ?_
    exact q_iret hx hb hr hP hF hS hw dX2_acrossFrom_9 hlocks
def wp_X2_lengthOf (S : St) (x1 : Int32) (P : Int32 → St → Prop) : Prop := (wp_X2_hasFibre S x1 (fun r2 S2 => (if r2 = true then (vp_in x1 14 ∧ (P (gI S2 4 (x1.toNatClampNeg)) S2)) else (P 0 S2))))
abbrev rm_X2_lengthOf : Room := { frames := 1, cells := 0, slots := 0, locals := 21 }
set_option maxHeartbeats 4000000 in
set_option maxRecDepth 100000 in
theorem c_X2_lengthOf (l : Launch) (D : va_G) (cy : Nat → ClassId) (b0 : Nat) (S : St) (x1 : Int32)  (P : Int32 → St → Prop) (hw : wp_X2_lengthOf S x1 P) : Met l yX2_lengthOf wsX2_lengthOf rm_X2_lengthOf (va_Pc [.ref (b0 + 1), .int x1] (Wd D cy b0 S)) (QC (Pi P) (Wb D cy b0) b0) 0 0 (AA b0) := by
  refine Met.ofW (cc := cX2_lengthOf) (maxL := 2) (ret := (some .int)) (by decide) rfl ?_
  intro p e s m args below meth c s₁ B hml hv
  obtain ⟨hargs, hW, hP, hF⟩ := hv
  have hx := B.exec
  have hb := B.bytes
  have hr := B.returns
  have hts := atoms_spec (ws := wsX2_lengthOf) B.pre
  have hown : s.vm.findClass RX2 = some m.cls := findClass_of_methodNamed B.named
  have hlocks := B.notSynchronized
  have hK := hW.1
  have hS : va_S (AA b0) s.heap s.heap [] := va_S.rf
  have hE : entryFrame m args 2 = F0 m 0 ((lg_sl [.ref (b0 + 1), .int x1] ++ List.replicate (2 - (lg_sl [.ref (b0 + 1), .int x1]).length) Slot.unset).toArray) [] := by rw [hargs]; exact lg_entry_eq m _ _
  rw [hE]
  have hl := lv_entry [.ref (b0 + 1), .int x1] (n := 2) (Nat.le_of_ble_eq_true rfl)
  generalize (lg_sl [.ref (b0 + 1), .int x1] ++ List.replicate (2 - (lg_sl [.ref (b0 + 1), .int x1]).length) Slot.unset).toArray = ls at hl ⊢
  have hl : lv_has ls 2 [(0, .ref (b0 + 1)), (1, .int x1)] := hl
  unfold wp_X2_lengthOf at hw
  refine lv_aload_n hx hb dX2_lengthOf_0 rfl (lv_at hl 0 rfl) ?_
  refine lv_iload_n hx hb dX2_lengthOf_1 rfl (lv_at hl 1 rfl) ?_
  refine q_call (va_runV (As := [.int x1]) (rest := []) ⟨hx, hb, hml, hown, hts⟩ (c_X2_hasFibre l D cy b0 S x1 _ hw) (cwV 1 hts gX2_lengthOf_X2_hasFibre rfl rfl rfl (by decide +kernel) ⟨(Nat.le_of_ble_eq_true rfl), (Nat.le_of_ble_eq_true rfl)⟩) (q_pV hW hP hF hS (k := 1) (ci := 2) (by decide) (cell_2 (kk_1)) rfl [.int x1]) rfl rfl hl.1 rfl (lv_room (Nat.le_of_ble_eq_true rfl)) dX2_lengthOf_2 ⟨(Nat.le_of_ble_eq_true rfl), (Nat.le_of_ble_eq_true rfl)⟩) hS (fun v2 S2 t2 H locs hh hp hB hz hk9 hS => ?_)
  obtain ⟨r2, rfl, hw⟩ := hp
  have hP : HP D cy b0 NALL S2 H := by rw [← hh]; exact hB.1
  have hF := hB.2
  try dsimp only at hw
  refine W.eq (g2 := F0 m 5 ls [.int (b2i r2)]) rfl ?_
  refine lv_if_eq (x := b2i r2) (tgt := 17) hx hb dX2_lengthOf_5 (by decide) (fun c5 => ?_) (fun c5 => ?_)
  · have c5 := b2i_z c5
    rw [if_neg c5] at hw
    refine lv_iconst (v := 0) hx hb dX2_lengthOf_17 (by decide) ?_
    exact q_iret hx hb hr hP hF hS hw dX2_lengthOf_18 hlocks
  · have c5 := b2i_n c5
    rw [if_pos c5] at hw
    refine lv_aload_n hx hb dX2_lengthOf_8 rfl (lv_at hl 0 rfl) ?_
    refine gf_2_7 (k := 1) hx hb hts (by decide +kernel) hown hK hP (by decide) (kk_1) (q := 4) (hF.1 1 7 4 ff_1_7) (hts (.fieldLink RX2 25 "Opticmesh$Network" "lengths" "[I") (by decide +kernel)) dX2_lengthOf_9 ?_
    refine lv_iload_n hx hb dX2_lengthOf_12 rfl (lv_at hl 1 rfl) ?_
    obtain ⟨h13, hw⟩ := hw
    refine q_iald (k := 4) (n := 14) (i := x1) hx hb hK hP (by decide) (kk_4) (ll_4) h13 dX2_lengthOf_13 ?_
    refine lv_goto (tgt := 18) hx hb dX2_lengthOf_14 (by decide) ?_
    exact q_iret hx hb hr hP hF hS hw dX2_lengthOf_18 hlocks
def wp_X3_channelAt (S : St) (k : Nat) (x1 : Int32) (P : Int32 → St → Prop) : Prop := (P ((((gJ S k 4) >>> (Int32.toInt64 (8 * (((gI S k 0) - 1) - x1)) &&& 63)).toInt32) &&& 255) S)
abbrev rm_X3_channelAt : Room := { frames := 0, cells := 0, slots := 0, locals := 0 }
set_option maxHeartbeats 4000000 in
set_option maxRecDepth 100000 in
theorem c_X3_channelAt (l : Launch) (D : va_G) (cy : Nat → ClassId) (b0 : Nat) (S : St) (k : Nat) (x1 : Int32) (hk : kd k = 3) (P : Int32 → St → Prop) (hw : wp_X3_channelAt S k x1 P) : Met l yX3_channelAt wsX3_channelAt rm_X3_channelAt (va_Pc [.ref (b0 + k), .int x1] (Wd D cy b0 S)) (QC (Pi P) (Wb D cy b0) b0) 0 0 (AA b0) := by
  refine Met.ofW (cc := cX3_channelAt) (maxL := 2) (ret := (some .int)) (by decide) rfl ?_
  intro p e s m args below meth c s₁ B hml hv
  obtain ⟨hargs, hW, hP, hF⟩ := hv
  have hx := B.exec
  have hb := B.bytes
  have hr := B.returns
  have hts := atoms_spec (ws := wsX3_channelAt) B.pre
  have hown : s.vm.findClass RX3 = some m.cls := findClass_of_methodNamed B.named
  have hlocks := B.notSynchronized
  have hK := hW.1
  have hS : va_S (AA b0) s.heap s.heap [] := va_S.rf
  have hE : entryFrame m args 2 = F0 m 0 ((lg_sl [.ref (b0 + k), .int x1] ++ List.replicate (2 - (lg_sl [.ref (b0 + k), .int x1]).length) Slot.unset).toArray) [] := by rw [hargs]; exact lg_entry_eq m _ _
  rw [hE]
  have hl := lv_entry [.ref (b0 + k), .int x1] (n := 2) (Nat.le_of_ble_eq_true rfl)
  generalize (lg_sl [.ref (b0 + k), .int x1] ++ List.replicate (2 - (lg_sl [.ref (b0 + k), .int x1]).length) Slot.unset).toArray = ls at hl ⊢
  have hl : lv_has ls 2 [(0, .ref (b0 + k)), (1, .int x1)] := hl
  unfold wp_X3_channelAt at hw
  refine lv_aload_n hx hb dX3_channelAt_0 rfl (lv_at hl 0 rfl) ?_
  refine gf_3_4 (k := k) hx hb hts (by decide +kernel) hown hK hP (kd_N hk (by decide)) hk (hts (.fieldLink RX3 22 "Opticmesh$Way" "channelBytes" "J") (by decide +kernel)) dX3_channelAt_1 ?_
  refine lv_bipush (v := 8) hx hb dX3_channelAt_4 (by decide) ?_
  refine lv_aload_n hx hb dX3_channelAt_6 rfl (lv_at hl 0 rfl) ?_
  refine gf_3_0 (k := k) hx hb hts (by decide +kernel) hown hK hP (kd_N hk (by decide)) hk (hts (.fieldLink RX3 7 "Opticmesh$Way" "count" "I") (by decide +kernel)) dX3_channelAt_7 ?_
  refine lv_iconst (v := 1) hx hb dX3_channelAt_10 (by decide) ?_
  refine lv_isub hx hb dX3_channelAt_11 ?_
  refine lv_iload_n hx hb dX3_channelAt_12 rfl (lv_at hl 1 rfl) ?_
  refine lv_isub hx hb dX3_channelAt_13 ?_
  refine lv_imul hx hb dX3_channelAt_14 ?_
  refine lv_lshr hx hb dX3_channelAt_15 (v := ((gJ S k 4) >>> (Int32.toInt64 (8 * (((gI S k 0) - 1) - x1)) &&& 63))) rfl ?_
  refine lv_l2i hx hb dX3_channelAt_16 (v := ((gJ S k 4) >>> (Int32.toInt64 (8 * (((gI S k 0) - 1) - x1)) &&& 63)).toInt32) rfl ?_
  refine lv_sipush (v := 255) hx hb dX3_channelAt_17 (by decide) ?_
  refine lv_iand hx hb dX3_channelAt_20 ?_
  exact q_iret hx hb hr hP hF hS hw dX3_channelAt_21 hlocks
def wp_X3_uses (S : St) (k : Nat) (x1 : Int32) (P : Bool → St → Prop) : Prop := (if (((gI S k 3) >>> (x1 &&& 31)) &&& 1) = 0 then (P false S) else (P true S))
abbrev rm_X3_uses : Room := { frames := 0, cells := 0, slots := 0, locals := 0 }
set_option maxHeartbeats 4000000 in
set_option maxRecDepth 100000 in
theorem c_X3_uses (l : Launch) (D : va_G) (cy : Nat → ClassId) (b0 : Nat) (S : St) (k : Nat) (x1 : Int32) (hk : kd k = 3) (P : Bool → St → Prop) (hw : wp_X3_uses S k x1 P) : Met l yX3_uses wsX3_uses rm_X3_uses (va_Pc [.ref (b0 + k), .int x1] (Wd D cy b0 S)) (QC (Pz P) (Wb D cy b0) b0) 0 0 (AA b0) := by
  refine Met.ofW (cc := cX3_uses) (maxL := 2) (ret := (some .boolean)) (by decide) rfl ?_
  intro p e s m args below meth c s₁ B hml hv
  obtain ⟨hargs, hW, hP, hF⟩ := hv
  have hx := B.exec
  have hb := B.bytes
  have hr := B.returns
  have hts := atoms_spec (ws := wsX3_uses) B.pre
  have hown : s.vm.findClass RX3 = some m.cls := findClass_of_methodNamed B.named
  have hlocks := B.notSynchronized
  have hK := hW.1
  have hS : va_S (AA b0) s.heap s.heap [] := va_S.rf
  have hE : entryFrame m args 2 = F0 m 0 ((lg_sl [.ref (b0 + k), .int x1] ++ List.replicate (2 - (lg_sl [.ref (b0 + k), .int x1]).length) Slot.unset).toArray) [] := by rw [hargs]; exact lg_entry_eq m _ _
  rw [hE]
  have hl := lv_entry [.ref (b0 + k), .int x1] (n := 2) (Nat.le_of_ble_eq_true rfl)
  generalize (lg_sl [.ref (b0 + k), .int x1] ++ List.replicate (2 - (lg_sl [.ref (b0 + k), .int x1]).length) Slot.unset).toArray = ls at hl ⊢
  have hl : lv_has ls 2 [(0, .ref (b0 + k)), (1, .int x1)] := hl
  unfold wp_X3_uses at hw
  refine lv_aload_n hx hb dX3_uses_0 rfl (lv_at hl 0 rfl) ?_
  refine gf_3_3 (k := k) hx hb hts (by decide +kernel) hown hK hP (kd_N hk (by decide)) hk (hts (.fieldLink RX3 19 "Opticmesh$Way" "fibres" "I") (by decide +kernel)) dX3_uses_1 ?_
  refine lv_iload_n hx hb dX3_uses_4 rfl (lv_at hl 1 rfl) ?_
  refine lv_ishr hx hb dX3_uses_5 ?_
  refine lv_iconst (v := 1) hx hb dX3_uses_6 (by decide) ?_
  refine lv_iand hx hb dX3_uses_7 ?_
  refine lv_if_eq (x := (((gI S k 3) >>> (x1 &&& 31)) &&& 1)) (tgt := 15) hx hb dX3_uses_8 (by decide) (fun c8 => ?_) (fun c8 => ?_)
  · rw [if_pos c8] at hw
    refine lv_iconst (v := 0) hx hb dX3_uses_15 (by decide) ?_
    exact q_zret (v := false) hx hb hr hP hF hS hw dX3_uses_16 hlocks
  · rw [if_neg c8] at hw
    refine lv_iconst (v := 1) hx hb dX3_uses_11 (by decide) ?_
    refine lv_goto (tgt := 16) hx hb dX3_uses_12 (by decide) ?_
    exact q_zret (v := true) hx hb hr hP hF hS hw dX3_uses_16 hlocks
def wp_X3_wavelengthsOn_48 (k : Nat) (x1 : Int32) (P : Int32 → St → Prop) (K14 : St → Int32 → Int32 → Prop) (S : St) (a2 : Int32) (a3 : Int32) : Prop := (∀ y48 : Int32, y48 = a3 + 1 → (K14 S a2 y48))
def wp_X3_wavelengthsOn_14 (k : Nat) (x1 : Int32) (P : Int32 → St → Prop) : Nat → St → Int32 → Int32 → Prop
  | 0 => fun _ _ _ => False
  | n + 1 => fun S a2 a3 => (if (gI S k 0) ≤ a3 then (P a2 S) else (wp_X3_channelAt S k a3 (fun r24 S24 => (if (r24 / 10) = x1 then (∀ y47 : Int32, y47 = (a2 ||| (1 <<< ((r24 % 10) &&& 31))) → (wp_X3_wavelengthsOn_48 k x1 P (wp_X3_wavelengthsOn_14 k x1 P n) S24 y47 a3)) else (wp_X3_wavelengthsOn_48 k x1 P (wp_X3_wavelengthsOn_14 k x1 P n) S24 a2 a3)))))
def wp_X3_wavelengthsOn (S : St) (k : Nat) (x1 : Int32) (P : Int32 → St → Prop) : Prop := (wp_X3_uses S k x1 (fun r2 S2 => (if r2 = true then (∃ n, wp_X3_wavelengthsOn_14 k x1 P n S2 0 0) else (P 0 S2))))
abbrev rm_X3_wavelengthsOn : Room := { frames := 1, cells := 0, slots := 0, locals := 21 }
set_option maxHeartbeats 4000000 in
set_option maxRecDepth 100000 in
theorem c_X3_wavelengthsOn (l : Launch) (D : va_G) (cy : Nat → ClassId) (b0 : Nat) (S : St) (k : Nat) (x1 : Int32) (hk : kd k = 3) (P : Int32 → St → Prop) (hw : wp_X3_wavelengthsOn S k x1 P) : Met l yX3_wavelengthsOn wsX3_wavelengthsOn rm_X3_wavelengthsOn (va_Pc [.ref (b0 + k), .int x1] (Wd D cy b0 S)) (QC (Pi P) (Wb D cy b0) b0) 0 0 (AA b0) := by
  refine Met.ofW (cc := cX3_wavelengthsOn) (maxL := 5) (ret := (some .int)) (by decide) rfl ?_
  intro p e s m args below meth c s₁ B hml hv
  obtain ⟨hargs, hW, hP, hF⟩ := hv
  have hx := B.exec
  have hb := B.bytes
  have hr := B.returns
  have hts := atoms_spec (ws := wsX3_wavelengthsOn) B.pre
  have hown : s.vm.findClass RX3 = some m.cls := findClass_of_methodNamed B.named
  have hlocks := B.notSynchronized
  have hK := hW.1
  have hS : va_S (AA b0) s.heap s.heap [] := va_S.rf
  have hE : entryFrame m args 5 = F0 m 0 ((lg_sl [.ref (b0 + k), .int x1] ++ List.replicate (5 - (lg_sl [.ref (b0 + k), .int x1]).length) Slot.unset).toArray) [] := by rw [hargs]; exact lg_entry_eq m _ _
  rw [hE]
  have hl := lv_entry [.ref (b0 + k), .int x1] (n := 5) (Nat.le_of_ble_eq_true rfl)
  generalize (lg_sl [.ref (b0 + k), .int x1] ++ List.replicate (5 - (lg_sl [.ref (b0 + k), .int x1]).length) Slot.unset).toArray = ls at hl ⊢
  have hl : lv_has ls 5 [(0, .ref (b0 + k)), (1, .int x1)] := hl
  have j14 : ∀ (n14 : Nat), ∀ (S : St) (a2 : Int32) (a3 : Int32), ∀ (H : Heap) (locs : List Loc) (ls : Array Slot), wp_X3_wavelengthsOn_14 k x1 P n14 S a2 a3 → HP D cy b0 NALL S H → Fx S → va_S (AA b0) s.heap H locs → lv_has ls 5 [(0, .ref (b0 + k)), (1, .int x1), (2, .int a2), (3, .int a3)] → W p l e rm_X3_wavelengthsOn s m args below meth c H locs 0 0 (MQ below (QC (Pi P) (Wb D cy b0) b0) args s 0 0 (AA b0)) (F0 m 14 ls []) := by
    intro n14
    induction n14 with
    | zero => intro S a2 a3  H locs ls hw _ _ _ _; exact False.elim hw
    | succ n14 ih14 =>
      have j48 : ∀ (S : St) (a2 : Int32) (a3 : Int32), ∀ (H : Heap) (locs : List Loc) (ls : Array Slot), wp_X3_wavelengthsOn_48 k x1 P (wp_X3_wavelengthsOn_14 k x1 P n14) S a2 a3 → HP D cy b0 NALL S H → Fx S → va_S (AA b0) s.heap H locs → lv_has ls 5 [(0, .ref (b0 + k)), (1, .int x1), (2, .int a2), (3, .int a3)] → W p l e rm_X3_wavelengthsOn s m args below meth c H locs 0 0 (MQ below (QC (Pi P) (Wb D cy b0) b0) args s 0 0 (AA b0)) (F0 m 48 ls []) := by
        intro S a2 a3  H locs ls hw hP hF hS hl
        unfold wp_X3_wavelengthsOn_48 at hw
        obtain ⟨y48, e48⟩ : ∃ z : Int32, z = a3 + 1 := ⟨_, rfl⟩
        have hw := hw y48 e48
        refine lv_iinc (v := y48) (lv' := [(3, .int y48), (0, .ref (b0 + k)), (1, .int x1), (2, .int a2)]) hx hb dX3_wavelengthsOn_48 hl (k := 3) rfl (by rw [e48]; rfl) (by decide) rfl (fun ls hl => ?_)
        refine lv_goto (tgt := 14) hx hb dX3_wavelengthsOn_51 (by decide) ?_
        exact ih14 S a2 y48  _ _ _ hw hP hF hS (lv_sub hl [1, 2, 3, 0] rfl)
      intro S a2 a3  H locs ls hw hP hF hS hl
      rw [wp_X3_wavelengthsOn_14] at hw
      refine lv_iload_n hx hb dX3_wavelengthsOn_14 rfl (lv_at hl 3 rfl) ?_
      refine lv_aload_n hx hb dX3_wavelengthsOn_15 rfl (lv_at hl 0 rfl) ?_
      refine gf_3_0 (k := k) hx hb hts (by decide +kernel) hown hK hP (kd_N hk (by decide)) hk (hts (.fieldLink RX3 7 "Opticmesh$Way" "count" "I") (by decide +kernel)) dX3_wavelengthsOn_16 ?_
      refine lv_icmp_ge (x := a3) (y := (gI S k 0)) (tgt := 54) hx hb dX3_wavelengthsOn_19 (by decide) (fun c19 => ?_) (fun c19 => ?_)
      · rw [if_pos c19] at hw
        refine lv_iload_n hx hb dX3_wavelengthsOn_54 rfl (lv_at hl 2 rfl) ?_
        exact q_iret hx hb hr hP hF hS hw dX3_wavelengthsOn_55 hlocks
      · rw [if_neg c19] at hw
        refine lv_aload_n hx hb dX3_wavelengthsOn_22 rfl (lv_at hl 0 rfl) ?_
        refine lv_iload_n hx hb dX3_wavelengthsOn_23 rfl (lv_at hl 3 rfl) ?_
        refine q_call (va_runV (As := [.int a3]) (rest := []) ⟨hx, hb, hml, hown, hts⟩ (c_X3_channelAt l D cy b0 S k a3 hk _ hw) (cwV 1 hts gX3_wavelengthsOn_X3_channelAt rfl rfl rfl (by decide +kernel) ⟨(Nat.le_of_ble_eq_true rfl), (Nat.le_of_ble_eq_true rfl)⟩) (q_pV hW hP hF hS (k := k) (ci := 3) (kd_N hk (by decide)) (cell_3 hk) rfl [.int a3]) rfl rfl hl.1 rfl (lv_room (Nat.le_of_ble_eq_true rfl)) dX3_wavelengthsOn_24 ⟨(Nat.le_of_ble_eq_true rfl), (Nat.le_of_ble_eq_true rfl)⟩) hS (fun v24 S24 t24 H locs hh hp hB hz hk9 hS => ?_)
        obtain ⟨r24, rfl, hw⟩ := hp
        have hP : HP D cy b0 NALL S24 H := by rw [← hh]; exact hB.1
        have hF := hB.2
        try dsimp only at hw
        refine W.eq (g2 := F0 m 27 ls [.int r24]) rfl ?_
        refine lv_istore (lv' := [(4, .int r24), (0, .ref (b0 + k)), (1, .int x1), (2, .int a2), (3, .int a3)]) hx hb dX3_wavelengthsOn_27 hl (by decide) rfl (fun ls hl => ?_)
        refine lv_iload hx hb dX3_wavelengthsOn_29 (lv_at hl 0 rfl) ?_
        refine lv_bipush (v := 10) hx hb dX3_wavelengthsOn_31 (by decide) ?_
        refine lv_idiv hx hb dX3_wavelengthsOn_33 (by decide) ?_
        refine lv_iload_n hx hb dX3_wavelengthsOn_34 rfl (lv_at hl 2 rfl) ?_
        refine lv_icmp_ne (x := (r24 / 10)) (y := x1) (tgt := 48) hx hb dX3_wavelengthsOn_35 (by decide) (fun c35 => ?_) (fun c35 => ?_)
        · rw [if_neg c35] at hw
          exact j48 S24 a2 a3  _ _ _ hw hP hF hS (lv_sub hl [1, 2, 3, 4] rfl)
        · rw [if_pos c35] at hw
          refine lv_iload_n hx hb dX3_wavelengthsOn_38 rfl (lv_at hl 3 rfl) ?_
          refine lv_iconst (v := 1) hx hb dX3_wavelengthsOn_39 (by decide) ?_
          refine lv_iload hx hb dX3_wavelengthsOn_40 (lv_at hl 0 rfl) ?_
          refine lv_bipush (v := 10) hx hb dX3_wavelengthsOn_42 (by decide) ?_
          refine lv_irem hx hb dX3_wavelengthsOn_44 (by decide) ?_
          refine lv_ishl hx hb dX3_wavelengthsOn_45 ?_
          refine lv_ior hx hb dX3_wavelengthsOn_46 ?_
          refine lv_topi (fun y47 e47 => ?_)
          have hw := hw y47 e47
          refine lv_istore_n (lv' := [(2, .int y47), (4, .int r24), (0, .ref (b0 + k)), (1, .int x1), (3, .int a3)]) hx hb dX3_wavelengthsOn_47 rfl hl (by decide) rfl (fun ls hl => ?_)
          exact j48 S24 y47 a3  _ _ _ hw hP hF hS (lv_sub hl [2, 3, 0, 4] rfl)
  unfold wp_X3_wavelengthsOn at hw
  refine lv_aload_n hx hb dX3_wavelengthsOn_0 rfl (lv_at hl 0 rfl) ?_
  refine lv_iload_n hx hb dX3_wavelengthsOn_1 rfl (lv_at hl 1 rfl) ?_
  refine q_call (va_runV (As := [.int x1]) (rest := []) ⟨hx, hb, hml, hown, hts⟩ (c_X3_uses l D cy b0 S k x1 hk _ hw) (cwV 1 hts gX3_wavelengthsOn_X3_uses rfl rfl rfl (by decide +kernel) ⟨(Nat.le_of_ble_eq_true rfl), (Nat.le_of_ble_eq_true rfl)⟩) (q_pV hW hP hF hS (k := k) (ci := 3) (kd_N hk (by decide)) (cell_3 hk) rfl [.int x1]) rfl rfl hl.1 rfl (lv_room (Nat.le_of_ble_eq_true rfl)) dX3_wavelengthsOn_2 ⟨(Nat.le_of_ble_eq_true rfl), (Nat.le_of_ble_eq_true rfl)⟩) hS (fun v2 S2 t2 H locs hh hp hB hz hk9 hS => ?_)
  obtain ⟨r2, rfl, hw⟩ := hp
  have hP : HP D cy b0 NALL S2 H := by rw [← hh]; exact hB.1
  have hF := hB.2
  try dsimp only at hw
  refine W.eq (g2 := F0 m 5 ls [.int (b2i r2)]) rfl ?_
  refine lv_if_ne (x := b2i r2) (tgt := 10) hx hb dX3_wavelengthsOn_5 (by decide) (fun c5 => ?_) (fun c5 => ?_)
  · have c5 := b2i_n c5
    rw [if_pos c5] at hw
    refine lv_iconst (v := 0) hx hb dX3_wavelengthsOn_10 (by decide) ?_
    refine lv_istore_n (lv' := [(2, .int 0), (0, .ref (b0 + k)), (1, .int x1)]) hx hb dX3_wavelengthsOn_11 rfl hl (by decide) rfl (fun ls hl => ?_)
    refine lv_iconst (v := 0) hx hb dX3_wavelengthsOn_12 (by decide) ?_
    refine lv_istore_n (lv' := [(3, .int 0), (2, .int 0), (0, .ref (b0 + k)), (1, .int x1)]) hx hb dX3_wavelengthsOn_13 rfl hl (by decide) rfl (fun ls hl => ?_)
    obtain ⟨n14, hw⟩ := hw
    exact j14 n14 S2 0 0  _ _ _ hw hP hF hS (lv_sub hl [2, 3, 1, 0] rfl)
  · have c5 := b2i_z c5
    rw [if_neg c5] at hw
    refine lv_iconst (v := 0) hx hb dX3_wavelengthsOn_8 (by decide) ?_
    exact q_iret hx hb hr hP hF hS hw dX3_wavelengthsOn_9 hlocks
def wp_X3_isAheadOf (S : St) (k : Nat) (x1 : Nat) (P : Bool → St → Prop) : Prop := (if (gI S k 1) = (gI S x1 1) then (if (gI S k 2) = (gI S x1 2) then (if (gI S k 0) = (gI S x1 0) then (if 0 ≤ (lg_cmp (gJ S k 4) (gJ S x1 4)) then (P false S) else (P true S)) else (if (gI S x1 0) ≤ (gI S k 0) then (P false S) else (P true S))) else (if (gI S x1 2) ≤ (gI S k 2) then (P false S) else (P true S))) else (if (gI S x1 1) ≤ (gI S k 1) then (P false S) else (P true S)))
abbrev rm_X3_isAheadOf : Room := { frames := 0, cells := 0, slots := 0, locals := 0 }
set_option maxHeartbeats 4000000 in
set_option maxRecDepth 100000 in
theorem c_X3_isAheadOf (l : Launch) (D : va_G) (cy : Nat → ClassId) (b0 : Nat) (S : St) (k : Nat) (x1 : Nat) (hk : kd k = 3) (hk1 : kd x1 = 3) (P : Bool → St → Prop) (hw : wp_X3_isAheadOf S k x1 P) : Met l yX3_isAheadOf wsX3_isAheadOf rm_X3_isAheadOf (va_Pc [.ref (b0 + k), .ref (b0 + x1)] (Wd D cy b0 S)) (QC (Pz P) (Wb D cy b0) b0) 0 0 (AA b0) := by
  refine Met.ofW (cc := cX3_isAheadOf) (maxL := 2) (ret := (some .boolean)) (by decide) rfl ?_
  intro p e s m args below meth c s₁ B hml hv
  obtain ⟨hargs, hW, hP, hF⟩ := hv
  have hx := B.exec
  have hb := B.bytes
  have hr := B.returns
  have hts := atoms_spec (ws := wsX3_isAheadOf) B.pre
  have hown : s.vm.findClass RX3 = some m.cls := findClass_of_methodNamed B.named
  have hlocks := B.notSynchronized
  have hK := hW.1
  have hS : va_S (AA b0) s.heap s.heap [] := va_S.rf
  have hE : entryFrame m args 2 = F0 m 0 ((lg_sl [.ref (b0 + k), .ref (b0 + x1)] ++ List.replicate (2 - (lg_sl [.ref (b0 + k), .ref (b0 + x1)]).length) Slot.unset).toArray) [] := by rw [hargs]; exact lg_entry_eq m _ _
  rw [hE]
  have hl := lv_entry [.ref (b0 + k), .ref (b0 + x1)] (n := 2) (Nat.le_of_ble_eq_true rfl)
  generalize (lg_sl [.ref (b0 + k), .ref (b0 + x1)] ++ List.replicate (2 - (lg_sl [.ref (b0 + k), .ref (b0 + x1)]).length) Slot.unset).toArray = ls at hl ⊢
  have hl : lv_has ls 2 [(0, .ref (b0 + k)), (1, .ref (b0 + x1))] := hl
  unfold wp_X3_isAheadOf at hw
  refine lv_aload_n hx hb dX3_isAheadOf_0 rfl (lv_at hl 0 rfl) ?_
  refine gf_3_1 (k := k) hx hb hts (by decide +kernel) hown hK hP (kd_N hk (by decide)) hk (hts (.fieldLink RX3 13 "Opticmesh$Way" "length" "I") (by decide +kernel)) dX3_isAheadOf_1 ?_
  refine lv_aload_n hx hb dX3_isAheadOf_4 rfl (lv_at hl 1 rfl) ?_
  refine gf_3_1 (k := x1) hx hb hts (by decide +kernel) hown hK hP (kd_N hk1 (by decide)) hk1 (hts (.fieldLink RX3 13 "Opticmesh$Way" "length" "I") (by decide +kernel)) dX3_isAheadOf_5 ?_
  refine lv_icmp_eq (x := (gI S k 1)) (y := (gI S x1 1)) (tgt := 28) hx hb dX3_isAheadOf_8 (by decide) (fun c8 => ?_) (fun c8 => ?_)
  · rw [if_pos c8] at hw
    refine lv_aload_n hx hb dX3_isAheadOf_28 rfl (lv_at hl 0 rfl) ?_
    refine gf_3_2 (k := k) hx hb hts (by decide +kernel) hown hK hP (kd_N hk (by decide)) hk (hts (.fieldLink RX3 16 "Opticmesh$Way" "conversions" "I") (by decide +kernel)) dX3_isAheadOf_29 ?_
    refine lv_aload_n hx hb dX3_isAheadOf_32 rfl (lv_at hl 1 rfl) ?_
    refine gf_3_2 (k := x1) hx hb hts (by decide +kernel) hown hK hP (kd_N hk1 (by decide)) hk1 (hts (.fieldLink RX3 16 "Opticmesh$Way" "conversions" "I") (by decide +kernel)) dX3_isAheadOf_33 ?_
    refine lv_icmp_eq (x := (gI S k 2)) (y := (gI S x1 2)) (tgt := 56) hx hb dX3_isAheadOf_36 (by decide) (fun c36 => ?_) (fun c36 => ?_)
    · rw [if_pos c36] at hw
      refine lv_aload_n hx hb dX3_isAheadOf_56 rfl (lv_at hl 0 rfl) ?_
      refine gf_3_0 (k := k) hx hb hts (by decide +kernel) hown hK hP (kd_N hk (by decide)) hk (hts (.fieldLink RX3 7 "Opticmesh$Way" "count" "I") (by decide +kernel)) dX3_isAheadOf_57 ?_
      refine lv_aload_n hx hb dX3_isAheadOf_60 rfl (lv_at hl 1 rfl) ?_
      refine gf_3_0 (k := x1) hx hb hts (by decide +kernel) hown hK hP (kd_N hk1 (by decide)) hk1 (hts (.fieldLink RX3 7 "Opticmesh$Way" "count" "I") (by decide +kernel)) dX3_isAheadOf_61 ?_
      refine lv_icmp_eq (x := (gI S k 0)) (y := (gI S x1 0)) (tgt := 84) hx hb dX3_isAheadOf_64 (by decide) (fun c64 => ?_) (fun c64 => ?_)
      · rw [if_pos c64] at hw
        refine lv_aload_n hx hb dX3_isAheadOf_84 rfl (lv_at hl 0 rfl) ?_
        refine gf_3_4 (k := k) hx hb hts (by decide +kernel) hown hK hP (kd_N hk (by decide)) hk (hts (.fieldLink RX3 22 "Opticmesh$Way" "channelBytes" "J") (by decide +kernel)) dX3_isAheadOf_85 ?_
        refine lv_aload_n hx hb dX3_isAheadOf_88 rfl (lv_at hl 1 rfl) ?_
        refine gf_3_4 (k := x1) hx hb hts (by decide +kernel) hown hK hP (kd_N hk1 (by decide)) hk1 (hts (.fieldLink RX3 22 "Opticmesh$Way" "channelBytes" "J") (by decide +kernel)) dX3_isAheadOf_89 ?_
        refine W.lcmp hx hb dX3_isAheadOf_92 ?_
        refine lv_if_ge (x := (lg_cmp (gJ S k 4) (gJ S x1 4))) (tgt := 100) hx hb dX3_isAheadOf_93 (by decide) (fun c93 => ?_) (fun c93 => ?_)
        · rw [if_pos c93] at hw
          refine lv_iconst (v := 0) hx hb dX3_isAheadOf_100 (by decide) ?_
          exact q_zret (v := false) hx hb hr hP hF hS hw dX3_isAheadOf_101 hlocks
        · rw [if_neg c93] at hw
          refine lv_iconst (v := 1) hx hb dX3_isAheadOf_96 (by decide) ?_
          refine lv_goto (tgt := 101) hx hb dX3_isAheadOf_97 (by decide) ?_
          exact q_zret (v := true) hx hb hr hP hF hS hw dX3_isAheadOf_101 hlocks
      · rw [if_neg c64] at hw
        refine lv_aload_n hx hb dX3_isAheadOf_67 rfl (lv_at hl 0 rfl) ?_
        refine gf_3_0 (k := k) hx hb hts (by decide +kernel) hown hK hP (kd_N hk (by decide)) hk (hts (.fieldLink RX3 7 "Opticmesh$Way" "count" "I") (by decide +kernel)) dX3_isAheadOf_68 ?_
        refine lv_aload_n hx hb dX3_isAheadOf_71 rfl (lv_at hl 1 rfl) ?_
        refine gf_3_0 (k := x1) hx hb hts (by decide +kernel) hown hK hP (kd_N hk1 (by decide)) hk1 (hts (.fieldLink RX3 7 "Opticmesh$Way" "count" "I") (by decide +kernel)) dX3_isAheadOf_72 ?_
        refine lv_icmp_ge (x := (gI S k 0)) (y := (gI S x1 0)) (tgt := 82) hx hb dX3_isAheadOf_75 (by decide) (fun c75 => ?_) (fun c75 => ?_)
        · rw [if_pos c75] at hw
          refine lv_iconst (v := 0) hx hb dX3_isAheadOf_82 (by decide) ?_
          exact q_zret (v := false) hx hb hr hP hF hS hw dX3_isAheadOf_83 hlocks
        · rw [if_neg c75] at hw
          refine lv_iconst (v := 1) hx hb dX3_isAheadOf_78 (by decide) ?_
          refine lv_goto (tgt := 83) hx hb dX3_isAheadOf_79 (by decide) ?_
          exact q_zret (v := true) hx hb hr hP hF hS hw dX3_isAheadOf_83 hlocks
    · rw [if_neg c36] at hw
      refine lv_aload_n hx hb dX3_isAheadOf_39 rfl (lv_at hl 0 rfl) ?_
      refine gf_3_2 (k := k) hx hb hts (by decide +kernel) hown hK hP (kd_N hk (by decide)) hk (hts (.fieldLink RX3 16 "Opticmesh$Way" "conversions" "I") (by decide +kernel)) dX3_isAheadOf_40 ?_
      refine lv_aload_n hx hb dX3_isAheadOf_43 rfl (lv_at hl 1 rfl) ?_
      refine gf_3_2 (k := x1) hx hb hts (by decide +kernel) hown hK hP (kd_N hk1 (by decide)) hk1 (hts (.fieldLink RX3 16 "Opticmesh$Way" "conversions" "I") (by decide +kernel)) dX3_isAheadOf_44 ?_
      refine lv_icmp_ge (x := (gI S k 2)) (y := (gI S x1 2)) (tgt := 54) hx hb dX3_isAheadOf_47 (by decide) (fun c47 => ?_) (fun c47 => ?_)
      · rw [if_pos c47] at hw
        refine lv_iconst (v := 0) hx hb dX3_isAheadOf_54 (by decide) ?_
        exact q_zret (v := false) hx hb hr hP hF hS hw dX3_isAheadOf_55 hlocks
      · rw [if_neg c47] at hw
        refine lv_iconst (v := 1) hx hb dX3_isAheadOf_50 (by decide) ?_
        refine lv_goto (tgt := 55) hx hb dX3_isAheadOf_51 (by decide) ?_
        exact q_zret (v := true) hx hb hr hP hF hS hw dX3_isAheadOf_55 hlocks
  · rw [if_neg c8] at hw
    refine lv_aload_n hx hb dX3_isAheadOf_11 rfl (lv_at hl 0 rfl) ?_
    refine gf_3_1 (k := k) hx hb hts (by decide +kernel) hown hK hP (kd_N hk (by decide)) hk (hts (.fieldLink RX3 13 "Opticmesh$Way" "length" "I") (by decide +kernel)) dX3_isAheadOf_12 ?_
    refine lv_aload_n hx hb dX3_isAheadOf_15 rfl (lv_at hl 1 rfl) ?_
    refine gf_3_1 (k := x1) hx hb hts (by decide +kernel) hown hK hP (kd_N hk1 (by decide)) hk1 (hts (.fieldLink RX3 13 "Opticmesh$Way" "length" "I") (by decide +kernel)) dX3_isAheadOf_16 ?_
    refine lv_icmp_ge (x := (gI S k 1)) (y := (gI S x1 1)) (tgt := 26) hx hb dX3_isAheadOf_19 (by decide) (fun c19 => ?_) (fun c19 => ?_)
    · rw [if_pos c19] at hw
      refine lv_iconst (v := 0) hx hb dX3_isAheadOf_26 (by decide) ?_
      exact q_zret (v := false) hx hb hr hP hF hS hw dX3_isAheadOf_27 hlocks
    · rw [if_neg c19] at hw
      refine lv_iconst (v := 1) hx hb dX3_isAheadOf_22 (by decide) ?_
      refine lv_goto (tgt := 27) hx hb dX3_isAheadOf_23 (by decide) ?_
      exact q_zret (v := true) hx hb hr hP hF hS hw dX3_isAheadOf_27 hlocks
def wp_X3_start (S : St) (k : Nat) (x1 : Int32) (x2 : Int32) (P : St → Prop) : Prop := (∀ S2 : St, S2 = sI S k 0 0 → (∀ S7 : St, S7 = sI S2 k 1 x1 → (∀ S12 : St, S12 = sI S7 k 2 x2 → (∀ S17 : St, S17 = sI S12 k 3 0 → (∀ S22 : St, S22 = sJ S17 k 4 0 → (P S22))))))
abbrev rm_X3_start : Room := { frames := 0, cells := 0, slots := 0, locals := 0 }
set_option maxHeartbeats 4000000 in
set_option maxRecDepth 100000 in
theorem c_X3_start (l : Launch) (D : va_G) (cy : Nat → ClassId) (b0 : Nat) (S : St) (k : Nat) (x1 : Int32) (x2 : Int32) (hk : kd k = 3) (P : St → Prop) (hw : wp_X3_start S k x1 x2 P) : Met l yX3_start wsX3_start rm_X3_start (va_Pc [.ref (b0 + k), .int x1, .int x2] (Wd D cy b0 S)) (QC (Pv P) (Wb D cy b0) b0) 0 0 (AA b0) := by
  refine Met.ofW (cc := cX3_start) (maxL := 3) (ret := none) (by decide) rfl ?_
  intro p e s m args below meth c s₁ B hml hv
  obtain ⟨hargs, hW, hP, hF⟩ := hv
  have hx := B.exec
  have hb := B.bytes
  have hr := B.returns
  have hts := atoms_spec (ws := wsX3_start) B.pre
  have hown : s.vm.findClass RX3 = some m.cls := findClass_of_methodNamed B.named
  have hlocks := B.notSynchronized
  have hK := hW.1
  have hS : va_S (AA b0) s.heap s.heap [] := va_S.rf
  have hE : entryFrame m args 3 = F0 m 0 ((lg_sl [.ref (b0 + k), .int x1, .int x2] ++ List.replicate (3 - (lg_sl [.ref (b0 + k), .int x1, .int x2]).length) Slot.unset).toArray) [] := by rw [hargs]; exact lg_entry_eq m _ _
  rw [hE]
  have hl := lv_entry [.ref (b0 + k), .int x1, .int x2] (n := 3) (Nat.le_of_ble_eq_true rfl)
  generalize (lg_sl [.ref (b0 + k), .int x1, .int x2] ++ List.replicate (3 - (lg_sl [.ref (b0 + k), .int x1, .int x2]).length) Slot.unset).toArray = ls at hl ⊢
  have hl : lv_has ls 3 [(0, .ref (b0 + k)), (1, .int x1), (2, .int x2)] := hl
  unfold wp_X3_start at hw
  refine lv_aload_n hx hb dX3_start_0 rfl (lv_at hl 0 rfl) ?_
  refine lv_iconst (v := 0) hx hb dX3_start_1 (by decide) ?_
  refine pf_3_0 (k := k) (x := 0) hx hb hts (by decide +kernel) hown hK hP hS (kd_N hk (by decide)) hk (hts (.fieldLink RX3 7 "Opticmesh$Way" "count" "I") (by decide +kernel)) dX3_start_2 (fun H locs hz hP hS => ?_)
  have hF : Fx (sI S k 0 0) := hF
  generalize eS2 : sI S k 0 0 = S2 at hP hF
  have hw := hw S2 eS2.symm
  refine lv_aload_n hx hb dX3_start_5 rfl (lv_at hl 0 rfl) ?_
  refine lv_iload_n hx hb dX3_start_6 rfl (lv_at hl 1 rfl) ?_
  refine pf_3_1 (k := k) (x := x1) hx hb hts (by decide +kernel) hown hK hP hS (kd_N hk (by decide)) hk (hts (.fieldLink RX3 13 "Opticmesh$Way" "length" "I") (by decide +kernel)) dX3_start_7 (fun H locs hz hP hS => ?_)
  have hF : Fx (sI S2 k 1 x1) := hF
  generalize eS7 : sI S2 k 1 x1 = S7 at hP hF
  have hw := hw S7 eS7.symm
  refine lv_aload_n hx hb dX3_start_10 rfl (lv_at hl 0 rfl) ?_
  refine lv_iload_n hx hb dX3_start_11 rfl (lv_at hl 2 rfl) ?_
  refine pf_3_2 (k := k) (x := x2) hx hb hts (by decide +kernel) hown hK hP hS (kd_N hk (by decide)) hk (hts (.fieldLink RX3 16 "Opticmesh$Way" "conversions" "I") (by decide +kernel)) dX3_start_12 (fun H locs hz hP hS => ?_)
  have hF : Fx (sI S7 k 2 x2) := hF
  generalize eS12 : sI S7 k 2 x2 = S12 at hP hF
  have hw := hw S12 eS12.symm
  refine lv_aload_n hx hb dX3_start_15 rfl (lv_at hl 0 rfl) ?_
  refine lv_iconst (v := 0) hx hb dX3_start_16 (by decide) ?_
  refine pf_3_3 (k := k) (x := 0) hx hb hts (by decide +kernel) hown hK hP hS (kd_N hk (by decide)) hk (hts (.fieldLink RX3 19 "Opticmesh$Way" "fibres" "I") (by decide +kernel)) dX3_start_17 (fun H locs hz hP hS => ?_)
  have hF : Fx (sI S12 k 3 0) := hF
  generalize eS17 : sI S12 k 3 0 = S17 at hP hF
  have hw := hw S17 eS17.symm
  refine lv_aload_n hx hb dX3_start_20 rfl (lv_at hl 0 rfl) ?_
  refine lv_lconst (v := 0) hx hb dX3_start_21 (by decide) ?_
  refine pf_3_4 (k := k) (x := 0) hx hb hts (by decide +kernel) hown hK hP hS (kd_N hk (by decide)) hk (hts (.fieldLink RX3 22 "Opticmesh$Way" "channelBytes" "J") (by decide +kernel)) dX3_start_22 (fun H locs hz hP hS => ?_)
  have hF : Fx (sJ S17 k 4 0) := hF
  generalize eS22 : sJ S17 k 4 0 = S22 at hP hF
  have hw := hw S22 eS22.symm
  exact q_vret hx hb hr hP hF hS hw dX3_start_25 hlocks
def wp_X3_append (S : St) (k : Nat) (x1 : Int32) (x2 : Int32) (P : St → Prop) : Prop := (∀ S16 : St, S16 = sJ S k 4 (((gJ S k 4) <<< (Int32.toInt64 8 &&& 63)) ||| (((10 * x1) + x2).toInt64)) → (∀ S28 : St, S28 = sI S16 k 3 ((gI S16 k 3) ||| (1 <<< (x1 &&& 31))) → (∀ S38 : St, S38 = sI S28 k 0 ((gI S28 k 0) + 1) → (P S38))))
abbrev rm_X3_append : Room := { frames := 0, cells := 0, slots := 0, locals := 0 }
set_option maxHeartbeats 4000000 in
set_option maxRecDepth 100000 in
theorem c_X3_append (l : Launch) (D : va_G) (cy : Nat → ClassId) (b0 : Nat) (S : St) (k : Nat) (x1 : Int32) (x2 : Int32) (hk : kd k = 3) (P : St → Prop) (hw : wp_X3_append S k x1 x2 P) : Met l yX3_append wsX3_append rm_X3_append (va_Pc [.ref (b0 + k), .int x1, .int x2] (Wd D cy b0 S)) (QC (Pv P) (Wb D cy b0) b0) 0 0 (AA b0) := by
  refine Met.ofW (cc := cX3_append) (maxL := 3) (ret := none) (by decide) rfl ?_
  intro p e s m args below meth c s₁ B hml hv
  obtain ⟨hargs, hW, hP, hF⟩ := hv
  have hx := B.exec
  have hb := B.bytes
  have hr := B.returns
  have hts := atoms_spec (ws := wsX3_append) B.pre
  have hown : s.vm.findClass RX3 = some m.cls := findClass_of_methodNamed B.named
  have hlocks := B.notSynchronized
  have hK := hW.1
  have hS : va_S (AA b0) s.heap s.heap [] := va_S.rf
  have hE : entryFrame m args 3 = F0 m 0 ((lg_sl [.ref (b0 + k), .int x1, .int x2] ++ List.replicate (3 - (lg_sl [.ref (b0 + k), .int x1, .int x2]).length) Slot.unset).toArray) [] := by rw [hargs]; exact lg_entry_eq m _ _
  rw [hE]
  have hl := lv_entry [.ref (b0 + k), .int x1, .int x2] (n := 3) (Nat.le_of_ble_eq_true rfl)
  generalize (lg_sl [.ref (b0 + k), .int x1, .int x2] ++ List.replicate (3 - (lg_sl [.ref (b0 + k), .int x1, .int x2]).length) Slot.unset).toArray = ls at hl ⊢
  have hl : lv_has ls 3 [(0, .ref (b0 + k)), (1, .int x1), (2, .int x2)] := hl
  unfold wp_X3_append at hw
  refine lv_aload_n hx hb dX3_append_0 rfl (lv_at hl 0 rfl) ?_
  refine lv_aload_n hx hb dX3_append_1 rfl (lv_at hl 0 rfl) ?_
  refine gf_3_4 (k := k) hx hb hts (by decide +kernel) hown hK hP (kd_N hk (by decide)) hk (hts (.fieldLink RX3 22 "Opticmesh$Way" "channelBytes" "J") (by decide +kernel)) dX3_append_2 ?_
  refine lv_bipush (v := 8) hx hb dX3_append_5 (by decide) ?_
  refine lv_lshl hx hb dX3_append_7 (v := ((gJ S k 4) <<< (Int32.toInt64 8 &&& 63))) rfl ?_
  refine lv_bipush (v := 10) hx hb dX3_append_8 (by decide) ?_
  refine lv_iload_n hx hb dX3_append_10 rfl (lv_at hl 1 rfl) ?_
  refine lv_imul hx hb dX3_append_11 ?_
  refine lv_iload_n hx hb dX3_append_12 rfl (lv_at hl 2 rfl) ?_
  refine lv_iadd hx hb dX3_append_13 ?_
  refine lv_i2l hx hb dX3_append_14 (v := ((10 * x1) + x2).toInt64) rfl ?_
  refine lv_lor hx hb dX3_append_15 ?_
  refine pf_3_4 (k := k) (x := (((gJ S k 4) <<< (Int32.toInt64 8 &&& 63)) ||| (((10 * x1) + x2).toInt64))) hx hb hts (by decide +kernel) hown hK hP hS (kd_N hk (by decide)) hk (hts (.fieldLink RX3 22 "Opticmesh$Way" "channelBytes" "J") (by decide +kernel)) dX3_append_16 (fun H locs hz hP hS => ?_)
  have hF : Fx (sJ S k 4 (((gJ S k 4) <<< (Int32.toInt64 8 &&& 63)) ||| (((10 * x1) + x2).toInt64))) := hF
  generalize eS16 : sJ S k 4 (((gJ S k 4) <<< (Int32.toInt64 8 &&& 63)) ||| (((10 * x1) + x2).toInt64)) = S16 at hP hF
  have hw := hw S16 eS16.symm
  refine lv_aload_n hx hb dX3_append_19 rfl (lv_at hl 0 rfl) ?_
  refine lv_dup hx hb dX3_append_20 rfl ?_
  refine gf_3_3 (k := k) hx hb hts (by decide +kernel) hown hK hP (kd_N hk (by decide)) hk (hts (.fieldLink RX3 19 "Opticmesh$Way" "fibres" "I") (by decide +kernel)) dX3_append_21 ?_
  refine lv_iconst (v := 1) hx hb dX3_append_24 (by decide) ?_
  refine lv_iload_n hx hb dX3_append_25 rfl (lv_at hl 1 rfl) ?_
  refine lv_ishl hx hb dX3_append_26 ?_
  refine lv_ior hx hb dX3_append_27 ?_
  refine pf_3_3 (k := k) (x := ((gI S16 k 3) ||| (1 <<< (x1 &&& 31)))) hx hb hts (by decide +kernel) hown hK hP hS (kd_N hk (by decide)) hk (hts (.fieldLink RX3 19 "Opticmesh$Way" "fibres" "I") (by decide +kernel)) dX3_append_28 (fun H locs hz hP hS => ?_)
  have hF : Fx (sI S16 k 3 ((gI S16 k 3) ||| (1 <<< (x1 &&& 31)))) := hF
  generalize eS28 : sI S16 k 3 ((gI S16 k 3) ||| (1 <<< (x1 &&& 31))) = S28 at hP hF
  have hw := hw S28 eS28.symm
  refine lv_aload_n hx hb dX3_append_31 rfl (lv_at hl 0 rfl) ?_
  refine lv_dup hx hb dX3_append_32 rfl ?_
  refine gf_3_0 (k := k) hx hb hts (by decide +kernel) hown hK hP (kd_N hk (by decide)) hk (hts (.fieldLink RX3 7 "Opticmesh$Way" "count" "I") (by decide +kernel)) dX3_append_33 ?_
  refine lv_iconst (v := 1) hx hb dX3_append_36 (by decide) ?_
  refine lv_iadd hx hb dX3_append_37 ?_
  refine pf_3_0 (k := k) (x := ((gI S28 k 0) + 1)) hx hb hts (by decide +kernel) hown hK hP hS (kd_N hk (by decide)) hk (hts (.fieldLink RX3 7 "Opticmesh$Way" "count" "I") (by decide +kernel)) dX3_append_38 (fun H locs hz hP hS => ?_)
  have hF : Fx (sI S28 k 0 ((gI S28 k 0) + 1)) := hF
  generalize eS38 : sI S28 k 0 ((gI S28 k 0) + 1) = S38 at hP hF
  have hw := hw S38 eS38.symm
  exact q_vret hx hb hr hP hF hS hw dX3_append_41 hlocks
def wp_X3_become (S : St) (k : Nat) (x1 : Nat) (P : St → Prop) : Prop := (∀ S5 : St, S5 = sI S k 0 (gI S x1 0) → (∀ S13 : St, S13 = sI S5 k 1 (gI S5 x1 1) → (∀ S21 : St, S21 = sI S13 k 2 (gI S13 x1 2) → (∀ S29 : St, S29 = sI S21 k 3 (gI S21 x1 3) → (∀ S37 : St, S37 = sJ S29 k 4 (gJ S29 x1 4) → (P S37))))))
abbrev rm_X3_become : Room := { frames := 0, cells := 0, slots := 0, locals := 0 }
set_option maxHeartbeats 4000000 in
set_option maxRecDepth 100000 in
theorem c_X3_become (l : Launch) (D : va_G) (cy : Nat → ClassId) (b0 : Nat) (S : St) (k : Nat) (x1 : Nat) (hk : kd k = 3) (hk1 : kd x1 = 3) (P : St → Prop) (hw : wp_X3_become S k x1 P) : Met l yX3_become wsX3_become rm_X3_become (va_Pc [.ref (b0 + k), .ref (b0 + x1)] (Wd D cy b0 S)) (QC (Pv P) (Wb D cy b0) b0) 0 0 (AA b0) := by
  refine Met.ofW (cc := cX3_become) (maxL := 2) (ret := none) (by decide) rfl ?_
  intro p e s m args below meth c s₁ B hml hv
  obtain ⟨hargs, hW, hP, hF⟩ := hv
  have hx := B.exec
  have hb := B.bytes
  have hr := B.returns
  have hts := atoms_spec (ws := wsX3_become) B.pre
  have hown : s.vm.findClass RX3 = some m.cls := findClass_of_methodNamed B.named
  have hlocks := B.notSynchronized
  have hK := hW.1
  have hS : va_S (AA b0) s.heap s.heap [] := va_S.rf
  have hE : entryFrame m args 2 = F0 m 0 ((lg_sl [.ref (b0 + k), .ref (b0 + x1)] ++ List.replicate (2 - (lg_sl [.ref (b0 + k), .ref (b0 + x1)]).length) Slot.unset).toArray) [] := by rw [hargs]; exact lg_entry_eq m _ _
  rw [hE]
  have hl := lv_entry [.ref (b0 + k), .ref (b0 + x1)] (n := 2) (Nat.le_of_ble_eq_true rfl)
  generalize (lg_sl [.ref (b0 + k), .ref (b0 + x1)] ++ List.replicate (2 - (lg_sl [.ref (b0 + k), .ref (b0 + x1)]).length) Slot.unset).toArray = ls at hl ⊢
  have hl : lv_has ls 2 [(0, .ref (b0 + k)), (1, .ref (b0 + x1))] := hl
  unfold wp_X3_become at hw
  refine lv_aload_n hx hb dX3_become_0 rfl (lv_at hl 0 rfl) ?_
  refine lv_aload_n hx hb dX3_become_1 rfl (lv_at hl 1 rfl) ?_
  refine gf_3_0 (k := x1) hx hb hts (by decide +kernel) hown hK hP (kd_N hk1 (by decide)) hk1 (hts (.fieldLink RX3 7 "Opticmesh$Way" "count" "I") (by decide +kernel)) dX3_become_2 ?_
  refine pf_3_0 (k := k) (x := (gI S x1 0)) hx hb hts (by decide +kernel) hown hK hP hS (kd_N hk (by decide)) hk (hts (.fieldLink RX3 7 "Opticmesh$Way" "count" "I") (by decide +kernel)) dX3_become_5 (fun H locs hz hP hS => ?_)
  have hF : Fx (sI S k 0 (gI S x1 0)) := hF
  generalize eS5 : sI S k 0 (gI S x1 0) = S5 at hP hF
  have hw := hw S5 eS5.symm
  refine lv_aload_n hx hb dX3_become_8 rfl (lv_at hl 0 rfl) ?_
  refine lv_aload_n hx hb dX3_become_9 rfl (lv_at hl 1 rfl) ?_
  refine gf_3_1 (k := x1) hx hb hts (by decide +kernel) hown hK hP (kd_N hk1 (by decide)) hk1 (hts (.fieldLink RX3 13 "Opticmesh$Way" "length" "I") (by decide +kernel)) dX3_become_10 ?_
  refine pf_3_1 (k := k) (x := (gI S5 x1 1)) hx hb hts (by decide +kernel) hown hK hP hS (kd_N hk (by decide)) hk (hts (.fieldLink RX3 13 "Opticmesh$Way" "length" "I") (by decide +kernel)) dX3_become_13 (fun H locs hz hP hS => ?_)
  have hF : Fx (sI S5 k 1 (gI S5 x1 1)) := hF
  generalize eS13 : sI S5 k 1 (gI S5 x1 1) = S13 at hP hF
  have hw := hw S13 eS13.symm
  refine lv_aload_n hx hb dX3_become_16 rfl (lv_at hl 0 rfl) ?_
  refine lv_aload_n hx hb dX3_become_17 rfl (lv_at hl 1 rfl) ?_
  refine gf_3_2 (k := x1) hx hb hts (by decide +kernel) hown hK hP (kd_N hk1 (by decide)) hk1 (hts (.fieldLink RX3 16 "Opticmesh$Way" "conversions" "I") (by decide +kernel)) dX3_become_18 ?_
  refine pf_3_2 (k := k) (x := (gI S13 x1 2)) hx hb hts (by decide +kernel) hown hK hP hS (kd_N hk (by decide)) hk (hts (.fieldLink RX3 16 "Opticmesh$Way" "conversions" "I") (by decide +kernel)) dX3_become_21 (fun H locs hz hP hS => ?_)
  have hF : Fx (sI S13 k 2 (gI S13 x1 2)) := hF
  generalize eS21 : sI S13 k 2 (gI S13 x1 2) = S21 at hP hF
  have hw := hw S21 eS21.symm
  refine lv_aload_n hx hb dX3_become_24 rfl (lv_at hl 0 rfl) ?_
  refine lv_aload_n hx hb dX3_become_25 rfl (lv_at hl 1 rfl) ?_
  refine gf_3_3 (k := x1) hx hb hts (by decide +kernel) hown hK hP (kd_N hk1 (by decide)) hk1 (hts (.fieldLink RX3 19 "Opticmesh$Way" "fibres" "I") (by decide +kernel)) dX3_become_26 ?_
  refine pf_3_3 (k := k) (x := (gI S21 x1 3)) hx hb hts (by decide +kernel) hown hK hP hS (kd_N hk (by decide)) hk (hts (.fieldLink RX3 19 "Opticmesh$Way" "fibres" "I") (by decide +kernel)) dX3_become_29 (fun H locs hz hP hS => ?_)
  have hF : Fx (sI S21 k 3 (gI S21 x1 3)) := hF
  generalize eS29 : sI S21 k 3 (gI S21 x1 3) = S29 at hP hF
  have hw := hw S29 eS29.symm
  refine lv_aload_n hx hb dX3_become_32 rfl (lv_at hl 0 rfl) ?_
  refine lv_aload_n hx hb dX3_become_33 rfl (lv_at hl 1 rfl) ?_
  refine gf_3_4 (k := x1) hx hb hts (by decide +kernel) hown hK hP (kd_N hk1 (by decide)) hk1 (hts (.fieldLink RX3 22 "Opticmesh$Way" "channelBytes" "J") (by decide +kernel)) dX3_become_34 ?_
  refine pf_3_4 (k := k) (x := (gJ S29 x1 4)) hx hb hts (by decide +kernel) hown hK hP hS (kd_N hk (by decide)) hk (hts (.fieldLink RX3 22 "Opticmesh$Way" "channelBytes" "J") (by decide +kernel)) dX3_become_37 (fun H locs hz hP hS => ?_)
  have hF : Fx (sJ S29 k 4 (gJ S29 x1 4)) := hF
  generalize eS37 : sJ S29 k 4 (gJ S29 x1 4) = S37 at hP hF
  have hw := hw S37 eS37.symm
  exact q_vret hx hb hr hP hF hS hw dX3_become_40 hlocks
def wp_X3_firstWavelength (S : St) (k : Nat) (P : Int32 → St → Prop) : Prop := (wp_X3_channelAt S k 0 (fun r2 S2 => (P (r2 % 10) S2)))
abbrev rm_X3_firstWavelength : Room := { frames := 1, cells := 0, slots := 0, locals := 21 }
set_option maxHeartbeats 4000000 in
set_option maxRecDepth 100000 in
theorem c_X3_firstWavelength (l : Launch) (D : va_G) (cy : Nat → ClassId) (b0 : Nat) (S : St) (k : Nat) (hk : kd k = 3) (P : Int32 → St → Prop) (hw : wp_X3_firstWavelength S k P) : Met l yX3_firstWavelength wsX3_firstWavelength rm_X3_firstWavelength (va_Pc [.ref (b0 + k)] (Wd D cy b0 S)) (QC (Pi P) (Wb D cy b0) b0) 0 0 (AA b0) := by
  refine Met.ofW (cc := cX3_firstWavelength) (maxL := 1) (ret := (some .int)) (by decide) rfl ?_
  intro p e s m args below meth c s₁ B hml hv
  obtain ⟨hargs, hW, hP, hF⟩ := hv
  have hx := B.exec
  have hb := B.bytes
  have hr := B.returns
  have hts := atoms_spec (ws := wsX3_firstWavelength) B.pre
  have hown : s.vm.findClass RX3 = some m.cls := findClass_of_methodNamed B.named
  have hlocks := B.notSynchronized
  have hK := hW.1
  have hS : va_S (AA b0) s.heap s.heap [] := va_S.rf
  have hE : entryFrame m args 1 = F0 m 0 ((lg_sl [.ref (b0 + k)] ++ List.replicate (1 - (lg_sl [.ref (b0 + k)]).length) Slot.unset).toArray) [] := by rw [hargs]; exact lg_entry_eq m _ _
  rw [hE]
  have hl := lv_entry [.ref (b0 + k)] (n := 1) (Nat.le_of_ble_eq_true rfl)
  generalize (lg_sl [.ref (b0 + k)] ++ List.replicate (1 - (lg_sl [.ref (b0 + k)]).length) Slot.unset).toArray = ls at hl ⊢
  have hl : lv_has ls 1 [(0, .ref (b0 + k))] := hl
  unfold wp_X3_firstWavelength at hw
  refine lv_aload_n hx hb dX3_firstWavelength_0 rfl (lv_at hl 0 rfl) ?_
  refine lv_iconst (v := 0) hx hb dX3_firstWavelength_1 (by decide) ?_
  refine q_call (va_runV (As := [.int 0]) (rest := []) ⟨hx, hb, hml, hown, hts⟩ (c_X3_channelAt l D cy b0 S k 0 hk _ hw) (cwV 1 hts gX3_firstWavelength_X3_channelAt rfl rfl rfl (by decide +kernel) ⟨(Nat.le_of_ble_eq_true rfl), (Nat.le_of_ble_eq_true rfl)⟩) (q_pV hW hP hF hS (k := k) (ci := 3) (kd_N hk (by decide)) (cell_3 hk) rfl [.int 0]) rfl rfl hl.1 rfl (lv_room (Nat.le_of_ble_eq_true rfl)) dX3_firstWavelength_2 ⟨(Nat.le_of_ble_eq_true rfl), (Nat.le_of_ble_eq_true rfl)⟩) hS (fun v2 S2 t2 H locs hh hp hB hz hk9 hS => ?_)
  obtain ⟨r2, rfl, hw⟩ := hp
  have hP : HP D cy b0 NALL S2 H := by rw [← hh]; exact hB.1
  have hF := hB.2
  try dsimp only at hw
  refine W.eq (g2 := F0 m 5 ls [.int r2]) rfl ?_
  refine lv_bipush (v := 10) hx hb dX3_firstWavelength_5 (by decide) ?_
  refine lv_irem hx hb dX3_firstWavelength_7 (by decide) ?_
  exact q_iret hx hb hr hP hF hS hw dX3_firstWavelength_8 hlocks
def wp_X3_shiftTo_11 (k : Nat) (x1 : Int32) (P : St → Prop) : Nat → St → Int64 → Int32 → Prop
  | 0 => fun _ _ _ => False
  | n + 1 => fun S a2 a4 => (if (gI S k 0) ≤ a4 then (P S) else (∀ S33 : St, S33 = sJ S k 4 ((gJ S k 4) + (a2 <<< (Int32.toInt64 (8 * a4) &&& 63))) → (∀ y36 : Int32, y36 = a4 + 1 → (wp_X3_shiftTo_11 k x1 P n S33 a2 y36))))
def wp_X3_shiftTo (S : St) (k : Nat) (x1 : Int32) (P : St → Prop) : Prop := (wp_X3_firstWavelength S k (fun r2 S2 => (∀ y7 : Int64, y7 = ((x1 - r2).toInt64) → (∃ n, wp_X3_shiftTo_11 k x1 P n S2 y7 0))))
abbrev rm_X3_shiftTo : Room := { frames := 2, cells := 0, slots := 0, locals := 41 }
set_option maxHeartbeats 4000000 in
set_option maxRecDepth 100000 in
theorem c_X3_shiftTo (l : Launch) (D : va_G) (cy : Nat → ClassId) (b0 : Nat) (S : St) (k : Nat) (x1 : Int32) (hk : kd k = 3) (P : St → Prop) (hw : wp_X3_shiftTo S k x1 P) : Met l yX3_shiftTo wsX3_shiftTo rm_X3_shiftTo (va_Pc [.ref (b0 + k), .int x1] (Wd D cy b0 S)) (QC (Pv P) (Wb D cy b0) b0) 0 0 (AA b0) := by
  refine Met.ofW (cc := cX3_shiftTo) (maxL := 5) (ret := none) (by decide) rfl ?_
  intro p e s m args below meth c s₁ B hml hv
  obtain ⟨hargs, hW, hP, hF⟩ := hv
  have hx := B.exec
  have hb := B.bytes
  have hr := B.returns
  have hts := atoms_spec (ws := wsX3_shiftTo) B.pre
  have hown : s.vm.findClass RX3 = some m.cls := findClass_of_methodNamed B.named
  have hlocks := B.notSynchronized
  have hK := hW.1
  have hS : va_S (AA b0) s.heap s.heap [] := va_S.rf
  have hE : entryFrame m args 5 = F0 m 0 ((lg_sl [.ref (b0 + k), .int x1] ++ List.replicate (5 - (lg_sl [.ref (b0 + k), .int x1]).length) Slot.unset).toArray) [] := by rw [hargs]; exact lg_entry_eq m _ _
  rw [hE]
  have hl := lv_entry [.ref (b0 + k), .int x1] (n := 5) (Nat.le_of_ble_eq_true rfl)
  generalize (lg_sl [.ref (b0 + k), .int x1] ++ List.replicate (5 - (lg_sl [.ref (b0 + k), .int x1]).length) Slot.unset).toArray = ls at hl ⊢
  have hl : lv_has ls 5 [(0, .ref (b0 + k)), (1, .int x1)] := hl
  have j11 : ∀ (n11 : Nat), ∀ (S : St) (a2 : Int64) (a4 : Int32), ∀ (H : Heap) (locs : List Loc) (ls : Array Slot), wp_X3_shiftTo_11 k x1 P n11 S a2 a4 → HP D cy b0 NALL S H → Fx S → va_S (AA b0) s.heap H locs → lv_has ls 5 [(0, .ref (b0 + k)), (2, .long a2), (4, .int a4)] → W p l e rm_X3_shiftTo s m args below meth c H locs 0 0 (MQ below (QC (Pv P) (Wb D cy b0) b0) args s 0 0 (AA b0)) (F0 m 11 ls []) := by
    intro n11
    induction n11 with
    | zero => intro S a2 a4  H locs ls hw _ _ _ _; exact False.elim hw
    | succ n11 ih11 =>
      intro S a2 a4  H locs ls hw hP hF hS hl
      rw [wp_X3_shiftTo_11] at hw
      refine lv_iload hx hb dX3_shiftTo_11 (lv_at hl 2 rfl) ?_
      refine lv_aload_n hx hb dX3_shiftTo_13 rfl (lv_at hl 0 rfl) ?_
      refine gf_3_0 (k := k) hx hb hts (by decide +kernel) hown hK hP (kd_N hk (by decide)) hk (hts (.fieldLink RX3 7 "Opticmesh$Way" "count" "I") (by decide +kernel)) dX3_shiftTo_14 ?_
      refine lv_icmp_ge (x := a4) (y := (gI S k 0)) (tgt := 42) hx hb dX3_shiftTo_17 (by decide) (fun c17 => ?_) (fun c17 => ?_)
      · rw [if_pos c17] at hw
        exact q_vret hx hb hr hP hF hS hw dX3_shiftTo_42 hlocks
      · rw [if_neg c17] at hw
        refine lv_aload_n hx hb dX3_shiftTo_20 rfl (lv_at hl 0 rfl) ?_
        refine lv_dup hx hb dX3_shiftTo_21 rfl ?_
        refine gf_3_4 (k := k) hx hb hts (by decide +kernel) hown hK hP (kd_N hk (by decide)) hk (hts (.fieldLink RX3 22 "Opticmesh$Way" "channelBytes" "J") (by decide +kernel)) dX3_shiftTo_22 ?_
        refine lv_lload_n hx hb dX3_shiftTo_25 rfl (lv_at hl 1 rfl) ?_
        refine lv_bipush (v := 8) hx hb dX3_shiftTo_26 (by decide) ?_
        refine lv_iload hx hb dX3_shiftTo_28 (lv_at hl 2 rfl) ?_
        refine lv_imul hx hb dX3_shiftTo_30 ?_
        refine lv_lshl hx hb dX3_shiftTo_31 (v := (a2 <<< (Int32.toInt64 (8 * a4) &&& 63))) rfl ?_
        refine lv_ladd hx hb dX3_shiftTo_32 ?_
        refine pf_3_4 (k := k) (x := ((gJ S k 4) + (a2 <<< (Int32.toInt64 (8 * a4) &&& 63)))) hx hb hts (by decide +kernel) hown hK hP hS (kd_N hk (by decide)) hk (hts (.fieldLink RX3 22 "Opticmesh$Way" "channelBytes" "J") (by decide +kernel)) dX3_shiftTo_33 (fun H locs hz hP hS => ?_)
        have hF : Fx (sJ S k 4 ((gJ S k 4) + (a2 <<< (Int32.toInt64 (8 * a4) &&& 63)))) := hF
        generalize eS33 : sJ S k 4 ((gJ S k 4) + (a2 <<< (Int32.toInt64 (8 * a4) &&& 63))) = S33 at hP hF
        have hw := hw S33 eS33.symm
        obtain ⟨y36, e36⟩ : ∃ z : Int32, z = a4 + 1 := ⟨_, rfl⟩
        have hw := hw y36 e36
        refine lv_iinc (v := y36) (lv' := [(4, .int y36), (0, .ref (b0 + k)), (2, .long a2)]) hx hb dX3_shiftTo_36 hl (k := 2) rfl (by rw [e36]; rfl) (by decide) rfl (fun ls hl => ?_)
        refine lv_goto (tgt := 11) hx hb dX3_shiftTo_39 (by decide) ?_
        exact ih11 S33 a2 y36  _ _ _ hw hP hF hS (lv_sub hl [1, 2, 0] rfl)
  unfold wp_X3_shiftTo at hw
  refine lv_iload_n hx hb dX3_shiftTo_0 rfl (lv_at hl 1 rfl) ?_
  refine lv_aload_n hx hb dX3_shiftTo_1 rfl (lv_at hl 0 rfl) ?_
  refine q_call (va_runV (As := []) (rest := [.int x1]) ⟨hx, hb, hml, hown, hts⟩ (c_X3_firstWavelength l D cy b0 S k hk _ hw) (cwV 0 hts gX3_shiftTo_X3_firstWavelength rfl rfl rfl (by decide +kernel) ⟨(Nat.le_of_ble_eq_true rfl), (Nat.le_of_ble_eq_true rfl)⟩) (q_pV hW hP hF hS (k := k) (ci := 3) (kd_N hk (by decide)) (cell_3 hk) rfl []) rfl rfl hl.1 rfl (lv_room (Nat.le_of_ble_eq_true rfl)) dX3_shiftTo_2 ⟨(Nat.le_of_ble_eq_true rfl), (Nat.le_of_ble_eq_true rfl)⟩) hS (fun v2 S2 t2 H locs hh hp hB hz hk9 hS => ?_)
  obtain ⟨r2, rfl, hw⟩ := hp
  have hP : HP D cy b0 NALL S2 H := by rw [← hh]; exact hB.1
  have hF := hB.2
  try dsimp only at hw
  refine W.eq (g2 := F0 m 5 ls [.int r2, .int x1]) rfl ?_
  refine lv_isub hx hb dX3_shiftTo_5 ?_
  refine lv_i2l hx hb dX3_shiftTo_6 (v := (x1 - r2).toInt64) rfl ?_
  refine lv_topl (fun y7 e7 => ?_)
  have hw := hw y7 e7
  refine lv_lstore_n (lv' := [(2, .long y7), (0, .ref (b0 + k)), (1, .int x1)]) hx hb dX3_shiftTo_7 rfl hl (by decide) rfl (fun ls hl => ?_)
  refine lv_iconst (v := 0) hx hb dX3_shiftTo_8 (by decide) ?_
  refine lv_istore (lv' := [(4, .int 0), (2, .long y7), (0, .ref (b0 + k)), (1, .int x1)]) hx hb dX3_shiftTo_9 hl (by decide) rfl (fun ls hl => ?_)
  obtain ⟨n11, hw⟩ := hw
  exact j11 n11 S2 y7 0  _ _ _ hw hP hF hS (lv_sub hl [2, 1, 0] rfl)
end
