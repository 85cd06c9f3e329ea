set_option maxRecDepth 20000 in
theorem ggX5_init_X2_init : GoodIn wsX5_init wsX2_init := goodIn_r _ [24, 25, 2, 3, 26, 27, 21, 28, 29, 30, 63, 64, 65, 66, 67, 68, 69, 70] (by decide +kernel) (by decide +kernel)
set_option maxRecDepth 20000 in
theorem gX5_init_X2_init_n11 : GoodIn wsX5_init (wsX2_init) := ggX5_init_X2_init
set_option maxRecDepth 20000 in
theorem ggX5_init_X4_init : GoodIn wsX5_init wsX4_init := goodIn_r _ [33, 34, 2, 3, 21, 35, 36, 37, 38, 39, 40, 41, 42, 43, 44, 45, 46, 47, 48, 49, 79, 80, 81, 82, 83, 84, 85, 86, 87, 88, 89, 90, 91, 102, 103, 104, 105, 106] (by decide +kernel) (by decide +kernel)
set_option maxRecDepth 20000 in
theorem gX5_init_X4_init : GoodIn wsX5_init (wsX4_init) := ggX5_init_X4_init
set_option maxRecDepth 20000 in
theorem ggX5_init_X0_init : GoodIn wsX5_init wsX0_init := goodIn_r _ [51, 52, 2, 3, 21, 53, 54, 92, 93, 94] (by decide +kernel) (by decide +kernel)
set_option maxRecDepth 20000 in
theorem gX5_init_X0_init_n27 : GoodIn wsX5_init (wsX0_init) := ggX5_init_X0_init
set_option maxRecDepth 20000 in
theorem ggX5_init_X1_init : GoodIn wsX5_init wsX1_init := goodIn_r _ [57, 58, 2, 3, 59, 45, 46, 60, 61, 62, 47, 48, 49, 102, 103, 104, 105, 106, 95, 96, 97, 98, 99, 100, 101] (by decide +kernel) (by decide +kernel)
set_option maxRecDepth 20000 in
theorem gX5_init_X1_init : GoodIn wsX5_init (wsX1_init) := ggX5_init_X1_init
theorem dX5_init_0 : decode cX5_init 0 = .ok (.aload_n 0, 1) := by decide +kernel
theorem dX5_init_1 : decode cX5_init 1 = .ok (.invokespecial 3, 3) := by decide +kernel
theorem dX5_init_4 : decode cX5_init 4 = .ok (.new 9, 3) := by decide +kernel
theorem dX5_init_7 : decode cX5_init 7 = .ok (.dup, 1) := by decide +kernel
theorem dX5_init_8 : decode cX5_init 8 = .ok (.invokespecial 11, 3) := by decide +kernel
theorem dX5_init_11 : decode cX5_init 11 = .ok (.astore_n 1, 1) := by decide +kernel
theorem dX5_init_12 : decode cX5_init 12 = .ok (.aload_n 0, 1) := by decide +kernel
theorem dX5_init_13 : decode cX5_init 13 = .ok (.aload_n 1, 1) := by decide +kernel
theorem dX5_init_14 : decode cX5_init 14 = .ok (.putfield 12, 3) := by decide +kernel
theorem dX5_init_17 : decode cX5_init 17 = .ok (.aload_n 0, 1) := by decide +kernel
theorem dX5_init_18 : decode cX5_init 18 = .ok (.new 16, 3) := by decide +kernel
theorem dX5_init_21 : decode cX5_init 21 = .ok (.dup, 1) := by decide +kernel
theorem dX5_init_22 : decode cX5_init 22 = .ok (.aload_n 1, 1) := by decide +kernel
theorem dX5_init_23 : decode cX5_init 23 = .ok (.invokespecial 18, 3) := by decide +kernel
theorem dX5_init_26 : decode cX5_init 26 = .ok (.putfield 21, 3) := by decide +kernel
theorem dX5_init_29 : decode cX5_init 29 = .ok (.aload_n 0, 1) := by decide +kernel
theorem dX5_init_30 : decode cX5_init 30 = .ok (.new 25, 3) := by decide +kernel
theorem dX5_init_33 : decode cX5_init 33 = .ok (.dup, 1) := by decide +kernel
theorem dX5_init_34 : decode cX5_init 34 = .ok (.invokespecial 27, 3) := by decide +kernel
theorem dX5_init_37 : decode cX5_init 37 = .ok (.putfield 28, 3) := by decide +kernel
theorem dX5_init_40 : decode cX5_init 40 = .ok (.aload_n 0, 1) := by decide +kernel
theorem dX5_init_41 : decode cX5_init 41 = .ok (.bipush 60, 2) := by decide +kernel
theorem dX5_init_43 : decode cX5_init 43 = .ok (.anewarray 32, 3) := by decide +kernel
theorem dX5_init_46 : decode cX5_init 46 = .ok (.putfield 34, 3) := by decide +kernel
theorem dX5_init_49 : decode cX5_init 49 = .ok (.iconst 0, 1) := by decide +kernel
theorem dX5_init_50 : decode cX5_init 50 = .ok (.istore_n 2, 1) := by decide +kernel
theorem dX5_init_51 : decode cX5_init 51 = .ok (.iload_n 2, 1) := by decide +kernel
theorem dX5_init_52 : decode cX5_init 52 = .ok (.bipush 60, 2) := by decide +kernel
theorem dX5_init_54 : decode cX5_init 54 = .ok (.if_icmp .ge 23, 3) := by decide +kernel
theorem dX5_init_57 : decode cX5_init 57 = .ok (.aload_n 0, 1) := by decide +kernel
theorem dX5_init_58 : decode cX5_init 58 = .ok (.getfield 34, 3) := by decide +kernel
theorem dX5_init_61 : decode cX5_init 61 = .ok (.iload_n 2, 1) := by decide +kernel
theorem dX5_init_62 : decode cX5_init 62 = .ok (.new 32, 3) := by decide +kernel
theorem dX5_init_65 : decode cX5_init 65 = .ok (.dup, 1) := by decide +kernel
theorem dX5_init_66 : decode cX5_init 66 = .ok (.iload_n 2, 1) := by decide +kernel
theorem dX5_init_67 : decode cX5_init 67 = .ok (.invokespecial 38, 3) := by decide +kernel
theorem dX5_init_70 : decode cX5_init 70 = .ok (.aastore, 1) := by decide +kernel
theorem dX5_init_71 : decode cX5_init 71 = .ok (.iinc 2 1, 3) := by decide +kernel
theorem dX5_init_74 : decode cX5_init 74 = .ok (.goto (-23), 3) := by decide +kernel
theorem dX5_init_77 : decode cX5_init 77 = .ok (.aload_n 0, 1) := by decide +kernel
theorem dX5_init_78 : decode cX5_init 78 = .ok (.bipush 60, 2) := by decide +kernel
theorem dX5_init_80 : decode cX5_init 80 = .ok (.anewarray 32, 3) := by decide +kernel
theorem dX5_init_83 : decode cX5_init 83 = .ok (.putfield 41, 3) := by decide +kernel
theorem dX5_init_86 : decode cX5_init 86 = .ok (.aload_n 0, 1) := by decide +kernel
theorem dX5_init_87 : decode cX5_init 87 = .ok (.bipush 60, 2) := by decide +kernel
theorem dX5_init_89 : decode cX5_init 89 = .ok (.newarray .int, 2) := by decide +kernel
theorem dX5_init_91 : decode cX5_init 91 = .ok (.putfield 44, 3) := by decide +kernel
theorem dX5_init_94 : decode cX5_init 94 = .ok (.return_, 1) := by decide +kernel
set_option maxRecDepth 20000 in
theorem ggX5_begin_X2_startAgain : GoodIn wsX5_begin wsX2_startAgain := goodIn_r _ [10, 11, 12, 13, 14, 15, 24, 25, 26, 27, 28, 29, 30, 31] (by decide +kernel) (by decide +kernel)
set_option maxRecDepth 20000 in
theorem gX5_begin_X2_startAgain : GoodIn wsX5_begin (wsV RX5 55 RX2 yX2_startAgain wsX2_startAgain) := goodIn_app (goodIn_of _ (by decide +kernel)) ggX5_begin_X2_startAgain
theorem dX5_begin_0 : decode cX5_begin 0 = .ok (.iload_n 1, 1) := by decide +kernel
theorem dX5_begin_1 : decode cX5_begin 1 = .ok (.iconst 2, 1) := by decide +kernel
theorem dX5_begin_2 : decode cX5_begin 2 = .ok (.if_icmp .lt 20, 3) := by decide +kernel
theorem dX5_begin_5 : decode cX5_begin 5 = .ok (.iload_n 1, 1) := by decide +kernel
theorem dX5_begin_6 : decode cX5_begin 6 = .ok (.bipush 8, 2) := by decide +kernel
theorem dX5_begin_8 : decode cX5_begin 8 = .ok (.if_icmp .gt 14, 3) := by decide +kernel
theorem dX5_begin_11 : decode cX5_begin 11 = .ok (.iload_n 2, 1) := by decide +kernel
theorem dX5_begin_12 : decode cX5_begin 12 = .ok (.iconst 1, 1) := by decide +kernel
theorem dX5_begin_13 : decode cX5_begin 13 = .ok (.if_icmp .lt 9, 3) := by decide +kernel
theorem dX5_begin_16 : decode cX5_begin 16 = .ok (.iload_n 2, 1) := by decide +kernel
theorem dX5_begin_17 : decode cX5_begin 17 = .ok (.bipush 8, 2) := by decide +kernel
theorem dX5_begin_19 : decode cX5_begin 19 = .ok (.if_icmp .le 13, 3) := by decide +kernel
theorem dX5_begin_22 : decode cX5_begin 22 = .ok (.new 48, 3) := by decide +kernel
theorem dX5_begin_25 : decode cX5_begin 25 = .ok (.dup, 1) := by decide +kernel
theorem dX5_begin_26 : decode cX5_begin 26 = .ok (.ldc 50, 2) := by decide +kernel
theorem dX5_begin_28 : decode cX5_begin 28 = .ok (.invokespecial 52, 3) := by decide +kernel
theorem dX5_begin_31 : decode cX5_begin 31 = .ok (.athrow, 1) := by decide +kernel
theorem dX5_begin_32 : decode cX5_begin 32 = .ok (.aload_n 0, 1) := by decide +kernel
theorem dX5_begin_33 : decode cX5_begin 33 = .ok (.getfield 12, 3) := by decide +kernel
theorem dX5_begin_36 : decode cX5_begin 36 = .ok (.iload_n 1, 1) := by decide +kernel
theorem dX5_begin_37 : decode cX5_begin 37 = .ok (.iload_n 2, 1) := by decide +kernel
theorem dX5_begin_38 : decode cX5_begin 38 = .ok (.invokevirtual 55, 3) := by decide +kernel
theorem dX5_begin_41 : decode cX5_begin 41 = .ok (.aload_n 0, 1) := by decide +kernel
theorem dX5_begin_42 : decode cX5_begin 42 = .ok (.iconst 0, 1) := by decide +kernel
theorem dX5_begin_43 : decode cX5_begin 43 = .ok (.putfield 59, 3) := by decide +kernel
theorem dX5_begin_46 : decode cX5_begin 46 = .ok (.aload_n 0, 1) := by decide +kernel
theorem dX5_begin_47 : decode cX5_begin 47 = .ok (.iconst 0, 1) := by decide +kernel
theorem dX5_begin_48 : decode cX5_begin 48 = .ok (.putfield 63, 3) := by decide +kernel
theorem dX5_begin_51 : decode cX5_begin 51 = .ok (.return_, 1) := by decide +kernel
set_option maxRecDepth 20000 in
theorem ggX5_addFibre_X5_areTwoNodes : GoodIn wsX5_addFibre wsX5_areTwoNodes := goodIn_r _ [10, 5, 11, 12, 13, 14, 15, 16, 25, 26, 27, 28, 29, 30, 31, 32, 33, 34, 35, 36, 37, 38, 39, 40] (by decide +kernel) (by decide +kernel)
set_option maxRecDepth 20000 in
theorem gX5_addFibre_X5_areTwoNodes : GoodIn wsX5_addFibre (wsV RX5 66 RX5 yX5_areTwoNodes wsX5_areTwoNodes) := goodIn_app (goodIn_of _ (by decide +kernel)) ggX5_addFibre_X5_areTwoNodes
set_option maxRecDepth 20000 in
theorem ggX5_addFibre_X2_join : GoodIn wsX5_addFibre wsX2_join := goodIn_r _ [20, 21, 22, 23, 24, 33, 34, 35, 36, 37, 38, 39, 40] (by decide +kernel) (by decide +kernel)
set_option maxRecDepth 20000 in
theorem gX5_addFibre_X2_join : GoodIn wsX5_addFibre (wsV RX5 72 RX2 yX2_join wsX2_join) := goodIn_app (goodIn_of _ (by decide +kernel)) ggX5_addFibre_X2_join
theorem dX5_addFibre_0 : decode cX5_addFibre 0 = .ok (.aload_n 0, 1) := by decide +kernel
theorem dX5_addFibre_1 : decode cX5_addFibre 1 = .ok (.iload_n 1, 1) := by decide +kernel
theorem dX5_addFibre_2 : decode cX5_addFibre 2 = .ok (.iload_n 2, 1) := by decide +kernel
theorem dX5_addFibre_3 : decode cX5_addFibre 3 = .ok (.invokevirtual 66, 3) := by decide +kernel
theorem dX5_addFibre_6 : decode cX5_addFibre 6 = .ok (.ifCond .eq 15, 3) := by decide +kernel
theorem dX5_addFibre_9 : decode cX5_addFibre 9 = .ok (.iload_n 3, 1) := by decide +kernel
theorem dX5_addFibre_10 : decode cX5_addFibre 10 = .ok (.iconst 1, 1) := by decide +kernel
theorem dX5_addFibre_11 : decode cX5_addFibre 11 = .ok (.if_icmp .lt 10, 3) := by decide +kernel
theorem dX5_addFibre_14 : decode cX5_addFibre 14 = .ok (.iload_n 3, 1) := by decide +kernel
theorem dX5_addFibre_15 : decode cX5_addFibre 15 = .ok (.sipush 1000, 3) := by decide +kernel
theorem dX5_addFibre_18 : decode cX5_addFibre 18 = .ok (.if_icmp .le 13, 3) := by decide +kernel
theorem dX5_addFibre_21 : decode cX5_addFibre 21 = .ok (.new 48, 3) := by decide +kernel
theorem dX5_addFibre_24 : decode cX5_addFibre 24 = .ok (.dup, 1) := by decide +kernel
theorem dX5_addFibre_25 : decode cX5_addFibre 25 = .ok (.ldc 70, 2) := by decide +kernel
theorem dX5_addFibre_27 : decode cX5_addFibre 27 = .ok (.invokespecial 52, 3) := by decide +kernel
theorem dX5_addFibre_30 : decode cX5_addFibre 30 = .ok (.athrow, 1) := by decide +kernel
theorem dX5_addFibre_31 : decode cX5_addFibre 31 = .ok (.aload_n 0, 1) := by decide +kernel
theorem dX5_addFibre_32 : decode cX5_addFibre 32 = .ok (.getfield 12, 3) := by decide +kernel
theorem dX5_addFibre_35 : decode cX5_addFibre 35 = .ok (.iload_n 1, 1) := by decide +kernel
theorem dX5_addFibre_36 : decode cX5_addFibre 36 = .ok (.iload_n 2, 1) := by decide +kernel
theorem dX5_addFibre_37 : decode cX5_addFibre 37 = .ok (.iload_n 3, 1) := by decide +kernel
theorem dX5_addFibre_38 : decode cX5_addFibre 38 = .ok (.invokevirtual 72, 3) := by decide +kernel
theorem dX5_addFibre_41 : decode cX5_addFibre 41 = .ok (.istore 4, 2) := by decide +kernel
theorem dX5_addFibre_43 : decode cX5_addFibre 43 = .ok (.iload 4, 2) := by decide +kernel
theorem dX5_addFibre_45 : decode cX5_addFibre 45 = .ok (.ifCond .ge 13, 3) := by decide +kernel
theorem dX5_addFibre_48 : decode cX5_addFibre 48 = .ok (.new 76, 3) := by decide +kernel
theorem dX5_addFibre_51 : decode cX5_addFibre 51 = .ok (.dup, 1) := by decide +kernel
theorem dX5_addFibre_52 : decode cX5_addFibre 52 = .ok (.ldc 78, 2) := by decide +kernel
theorem dX5_addFibre_54 : decode cX5_addFibre 54 = .ok (.invokespecial 80, 3) := by decide +kernel
theorem dX5_addFibre_57 : decode cX5_addFibre 57 = .ok (.athrow, 1) := by decide +kernel
theorem dX5_addFibre_58 : decode cX5_addFibre 58 = .ok (.iload 4, 2) := by decide +kernel
theorem dX5_addFibre_60 : decode cX5_addFibre 60 = .ok (.ireturn, 1) := by decide +kernel
set_option maxRecDepth 20000 in
theorem ggX5_toggleConverter_X2_hasNode : GoodIn wsX5_toggleConverter wsX2_hasNode := goodIn_r _ [9, 10, 19, 20, 21, 22, 23, 24, 25, 26] (by decide +kernel) (by decide +kernel)
set_option maxRecDepth 20000 in
theorem gX5_toggleConverter_X2_hasNode : GoodIn wsX5_toggleConverter (wsV RX5 81 RX2 yX2_hasNode wsX2_hasNode) := goodIn_app (goodIn_of _ (by decide +kernel)) ggX5_toggleConverter_X2_hasNode
theorem dX5_toggleConverter_0 : decode cX5_toggleConverter 0 = .ok (.aload_n 0, 1) := by decide +kernel
theorem dX5_toggleConverter_1 : decode cX5_toggleConverter 1 = .ok (.getfield 12, 3) := by decide +kernel
theorem dX5_toggleConverter_4 : decode cX5_toggleConverter 4 = .ok (.iload_n 1, 1) := by decide +kernel
theorem dX5_toggleConverter_5 : decode cX5_toggleConverter 5 = .ok (.invokevirtual 81, 3) := by decide +kernel
theorem dX5_toggleConverter_8 : decode cX5_toggleConverter 8 = .ok (.ifCond .ne 13, 3) := by decide +kernel
theorem dX5_toggleConverter_11 : decode cX5_toggleConverter 11 = .ok (.new 48, 3) := by decide +kernel
theorem dX5_toggleConverter_14 : decode cX5_toggleConverter 14 = .ok (.dup, 1) := by decide +kernel
theorem dX5_toggleConverter_15 : decode cX5_toggleConverter 15 = .ok (.ldc 85, 2) := by decide +kernel
theorem dX5_toggleConverter_17 : decode cX5_toggleConverter 17 = .ok (.invokespecial 52, 3) := by decide +kernel
theorem dX5_toggleConverter_20 : decode cX5_toggleConverter 20 = .ok (.athrow, 1) := by decide +kernel
theorem dX5_toggleConverter_21 : decode cX5_toggleConverter 21 = .ok (.aload_n 0, 1) := by decide +kernel
theorem dX5_toggleConverter_22 : decode cX5_toggleConverter 22 = .ok (.getfield 12, 3) := by decide +kernel
theorem dX5_toggleConverter_25 : decode cX5_toggleConverter 25 = .ok (.dup, 1) := by decide +kernel
theorem dX5_toggleConverter_26 : decode cX5_toggleConverter 26 = .ok (.getfield 87, 3) := by decide +kernel
theorem dX5_toggleConverter_29 : decode cX5_toggleConverter 29 = .ok (.iconst 1, 1) := by decide +kernel
theorem dX5_toggleConverter_30 : decode cX5_toggleConverter 30 = .ok (.iload_n 1, 1) := by decide +kernel
theorem dX5_toggleConverter_31 : decode cX5_toggleConverter 31 = .ok (.ishl, 1) := by decide +kernel
theorem dX5_toggleConverter_32 : decode cX5_toggleConverter 32 = .ok (.ixor, 1) := by decide +kernel
theorem dX5_toggleConverter_33 : decode cX5_toggleConverter 33 = .ok (.putfield 87, 3) := by decide +kernel
theorem dX5_toggleConverter_36 : decode cX5_toggleConverter 36 = .ok (.aload_n 0, 1) := by decide +kernel
theorem dX5_toggleConverter_37 : decode cX5_toggleConverter 37 = .ok (.getfield 12, 3) := by decide +kernel
theorem dX5_toggleConverter_40 : decode cX5_toggleConverter 40 = .ok (.getfield 87, 3) := by decide +kernel
theorem dX5_toggleConverter_43 : decode cX5_toggleConverter 43 = .ok (.iload_n 1, 1) := by decide +kernel
theorem dX5_toggleConverter_44 : decode cX5_toggleConverter 44 = .ok (.ishr, 1) := by decide +kernel
theorem dX5_toggleConverter_45 : decode cX5_toggleConverter 45 = .ok (.iconst 1, 1) := by decide +kernel
theorem dX5_toggleConverter_46 : decode cX5_toggleConverter 46 = .ok (.iand, 1) := by decide +kernel
theorem dX5_toggleConverter_47 : decode cX5_toggleConverter 47 = .ok (.ifCond .eq 7, 3) := by decide +kernel
theorem dX5_toggleConverter_50 : decode cX5_toggleConverter 50 = .ok (.iconst 1, 1) := by decide +kernel
theorem dX5_toggleConverter_51 : decode cX5_toggleConverter 51 = .ok (.goto 4, 3) := by decide +kernel
theorem dX5_toggleConverter_54 : decode cX5_toggleConverter 54 = .ok (.iconst 0, 1) := by decide +kernel
theorem dX5_toggleConverter_55 : decode cX5_toggleConverter 55 = .ok (.ireturn, 1) := by decide +kernel
set_option maxRecDepth 20000 in
theorem ggX5_cut_X5_requireFibre : GoodIn wsX5_cut wsX5_requireFibre := goodIn_ca (goodIn_r _ [9, 10, 11, 3, 12, 13, 14, 15, 16, 17, 43, 44, 45, 46, 47, 48, 49, 50, 51, 52, 53, 54, 55, 56, 57, 58] (by decide +kernel) (by decide +kernel)) (goodIn_sub (fun _ h => List.mem_cons_of_mem _ (List.mem_append_right _ h)) (by decide +kernel))
set_option maxRecDepth 20000 in
theorem gX5_cut_X5_requireFibre : GoodIn wsX5_cut (wsV RX5 90 RX5 yX5_requireFibre wsX5_requireFibre) := goodIn_app (goodIn_of _ (by decide +kernel)) ggX5_cut_X5_requireFibre
set_option maxRecDepth 20000 in
theorem ggX5_cut_X2_isCut : GoodIn wsX5_cut wsX2_isCut := goodIn_r _ [21, 22, 51, 52, 53, 54, 55, 56, 57, 58] (by decide +kernel) (by decide +kernel)
set_option maxRecDepth 20000 in
theorem gX5_cut_X2_isCut : GoodIn wsX5_cut (wsV RX5 93 RX2 yX2_isCut wsX2_isCut) := goodIn_app (goodIn_of _ (by decide +kernel)) ggX5_cut_X2_isCut
set_option maxRecDepth 20000 in
theorem ggX5_cut_X5_lightsUp : GoodIn wsX5_cut wsX5_lightsUp := goodIn_r _ [26, 27, 28, 3, 4, 29, 30, 31, 32, 33, 34, 35, 36, 37, 38, 39, 40, 41, 42, 43, 44, 45, 46, 47, 48, 49, 50, 51, 52, 53, 54, 55, 56, 57, 58, 59, 60, 61, 62, 63, 64, 65, 66, 67, 68, 69, 70] (by decide +kernel) (by decide +kernel)
set_option maxRecDepth 20000 in
theorem gX5_cut_X5_lightsUp : GoodIn wsX5_cut (wsV RX5 98 RX5 yX5_lightsUp wsX5_lightsUp) := goodIn_app (goodIn_of _ (by decide +kernel)) ggX5_cut_X5_lightsUp
theorem dX5_cut_0 : decode cX5_cut 0 = .ok (.aload_n 0, 1) := by decide +kernel
theorem dX5_cut_1 : decode cX5_cut 1 = .ok (.iload_n 1, 1) := by decide +kernel
theorem dX5_cut_2 : decode cX5_cut 2 = .ok (.invokevirtual 90, 3) := by decide +kernel
theorem dX5_cut_5 : decode cX5_cut 5 = .ok (.aload_n 0, 1) := by decide +kernel
theorem dX5_cut_6 : decode cX5_cut 6 = .ok (.getfield 12, 3) := by decide +kernel
theorem dX5_cut_9 : decode cX5_cut 9 = .ok (.iload_n 1, 1) := by decide +kernel
theorem dX5_cut_10 : decode cX5_cut 10 = .ok (.invokevirtual 93, 3) := by decide +kernel
theorem dX5_cut_13 : decode cX5_cut 13 = .ok (.ifCond .eq 13, 3) := by decide +kernel
theorem dX5_cut_16 : decode cX5_cut 16 = .ok (.new 76, 3) := by decide +kernel
theorem dX5_cut_19 : decode cX5_cut 19 = .ok (.dup, 1) := by decide +kernel
theorem dX5_cut_20 : decode cX5_cut 20 = .ok (.ldc 96, 2) := by decide +kernel
theorem dX5_cut_22 : decode cX5_cut 22 = .ok (.invokespecial 80, 3) := by decide +kernel
theorem dX5_cut_25 : decode cX5_cut 25 = .ok (.athrow, 1) := by decide +kernel
theorem dX5_cut_26 : decode cX5_cut 26 = .ok (.aload_n 0, 1) := by decide +kernel
theorem dX5_cut_27 : decode cX5_cut 27 = .ok (.invokevirtual 98, 3) := by decide +kernel
theorem dX5_cut_30 : decode cX5_cut 30 = .ok (.istore_n 2, 1) := by decide +kernel
theorem dX5_cut_31 : decode cX5_cut 31 = .ok (.aload_n 0, 1) := by decide +kernel
theorem dX5_cut_32 : decode cX5_cut 32 = .ok (.getfield 12, 3) := by decide +kernel
theorem dX5_cut_35 : decode cX5_cut 35 = .ok (.dup, 1) := by decide +kernel
theorem dX5_cut_36 : decode cX5_cut 36 = .ok (.getfield 102, 3) := by decide +kernel
theorem dX5_cut_39 : decode cX5_cut 39 = .ok (.iconst 1, 1) := by decide +kernel
theorem dX5_cut_40 : decode cX5_cut 40 = .ok (.iload_n 1, 1) := by decide +kernel
theorem dX5_cut_41 : decode cX5_cut 41 = .ok (.ishl, 1) := by decide +kernel
theorem dX5_cut_42 : decode cX5_cut 42 = .ok (.ior, 1) := by decide +kernel
theorem dX5_cut_43 : decode cX5_cut 43 = .ok (.putfield 102, 3) := by decide +kernel
theorem dX5_cut_46 : decode cX5_cut 46 = .ok (.iload_n 2, 1) := by decide +kernel
theorem dX5_cut_47 : decode cX5_cut 47 = .ok (.aload_n 0, 1) := by decide +kernel
theorem dX5_cut_48 : decode cX5_cut 48 = .ok (.invokevirtual 98, 3) := by decide +kernel
theorem dX5_cut_51 : decode cX5_cut 51 = .ok (.isub, 1) := by decide +kernel
theorem dX5_cut_52 : decode cX5_cut 52 = .ok (.ireturn, 1) := by decide +kernel
set_option maxRecDepth 20000 in
theorem ggX5_repair_X5_requireFibre : GoodIn wsX5_repair wsX5_requireFibre := goodIn_ca (goodIn_r _ [9, 10, 11, 3, 12, 13, 14, 15, 16, 17, 43, 44, 45, 46, 47, 48, 49, 50, 51, 52, 53, 54, 55, 56, 57, 58] (by decide +kernel) (by decide +kernel)) (goodIn_sub (fun _ h => List.mem_cons_of_mem _ (List.mem_append_right _ h)) (by decide +kernel))
set_option maxRecDepth 20000 in
theorem gX5_repair_X5_requireFibre : GoodIn wsX5_repair (wsV RX5 90 RX5 yX5_requireFibre wsX5_requireFibre) := goodIn_app (goodIn_of _ (by decide +kernel)) ggX5_repair_X5_requireFibre
set_option maxRecDepth 20000 in
theorem ggX5_repair_X2_isCut : GoodIn wsX5_repair wsX2_isCut := goodIn_r _ [21, 22, 51, 52, 53, 54, 55, 56, 57, 58] (by decide +kernel) (by decide +kernel)
set_option maxRecDepth 20000 in
theorem gX5_repair_X2_isCut : GoodIn wsX5_repair (wsV RX5 93 RX2 yX2_isCut wsX2_isCut) := goodIn_app (goodIn_of _ (by decide +kernel)) ggX5_repair_X2_isCut
set_option maxRecDepth 20000 in
theorem ggX5_repair_X5_lightsUp : GoodIn wsX5_repair wsX5_lightsUp := goodIn_r _ [26, 27, 28, 3, 4, 29, 30, 31, 32, 33, 34, 35, 36, 37, 38, 39, 40, 41, 42, 43, 44, 45, 46, 47, 48, 49, 50, 51, 52, 53, 54, 55, 56, 57, 58, 59, 60, 61, 62, 63, 64, 65, 66, 67, 68, 69, 70] (by decide +kernel) (by decide +kernel)
set_option maxRecDepth 20000 in
theorem gX5_repair_X5_lightsUp : GoodIn wsX5_repair (wsV RX5 98 RX5 yX5_lightsUp wsX5_lightsUp) := goodIn_app (goodIn_of _ (by decide +kernel)) ggX5_repair_X5_lightsUp
theorem dX5_repair_0 : decode cX5_repair 0 = .ok (.aload_n 0, 1) := by decide +kernel
theorem dX5_repair_1 : decode cX5_repair 1 = .ok (.iload_n 1, 1) := by decide +kernel
theorem dX5_repair_2 : decode cX5_repair 2 = .ok (.invokevirtual 90, 3) := by decide +kernel
theorem dX5_repair_5 : decode cX5_repair 5 = .ok (.aload_n 0, 1) := by decide +kernel
theorem dX5_repair_6 : decode cX5_repair 6 = .ok (.getfield 12, 3) := by decide +kernel
theorem dX5_repair_9 : decode cX5_repair 9 = .ok (.iload_n 1, 1) := by decide +kernel
theorem dX5_repair_10 : decode cX5_repair 10 = .ok (.invokevirtual 93, 3) := by decide +kernel
theorem dX5_repair_13 : decode cX5_repair 13 = .ok (.ifCond .ne 13, 3) := by decide +kernel
theorem dX5_repair_16 : decode cX5_repair 16 = .ok (.new 76, 3) := by decide +kernel
theorem dX5_repair_19 : decode cX5_repair 19 = .ok (.dup, 1) := by decide +kernel
theorem dX5_repair_20 : decode cX5_repair 20 = .ok (.ldc 105, 2) := by decide +kernel
theorem dX5_repair_22 : decode cX5_repair 22 = .ok (.invokespecial 80, 3) := by decide +kernel
theorem dX5_repair_25 : decode cX5_repair 25 = .ok (.athrow, 1) := by decide +kernel
theorem dX5_repair_26 : decode cX5_repair 26 = .ok (.aload_n 0, 1) := by decide +kernel
theorem dX5_repair_27 : decode cX5_repair 27 = .ok (.invokevirtual 98, 3) := by decide +kernel
theorem dX5_repair_30 : decode cX5_repair 30 = .ok (.istore_n 2, 1) := by decide +kernel
theorem dX5_repair_31 : decode cX5_repair 31 = .ok (.aload_n 0, 1) := by decide +kernel
theorem dX5_repair_32 : decode cX5_repair 32 = .ok (.getfield 12, 3) := by decide +kernel
theorem dX5_repair_35 : decode cX5_repair 35 = .ok (.dup, 1) := by decide +kernel
theorem dX5_repair_36 : decode cX5_repair 36 = .ok (.getfield 102, 3) := by decide +kernel
theorem dX5_repair_39 : decode cX5_repair 39 = .ok (.iconst 1, 1) := by decide +kernel
theorem dX5_repair_40 : decode cX5_repair 40 = .ok (.iload_n 1, 1) := by decide +kernel
theorem dX5_repair_41 : decode cX5_repair 41 = .ok (.ishl, 1) := by decide +kernel
theorem dX5_repair_42 : decode cX5_repair 42 = .ok (.iconst (-1), 1) := by decide +kernel
theorem dX5_repair_43 : decode cX5_repair 43 = .ok (.ixor, 1) := by decide +kernel
theorem dX5_repair_44 : decode cX5_repair 44 = .ok (.iand, 1) := by decide +kernel
theorem dX5_repair_45 : decode cX5_repair 45 = .ok (.putfield 102, 3) := by decide +kernel
theorem dX5_repair_48 : decode cX5_repair 48 = .ok (.aload_n 0, 1) := by decide +kernel
theorem dX5_repair_49 : decode cX5_repair 49 = .ok (.invokevirtual 98, 3) := by decide +kernel
theorem dX5_repair_52 : decode cX5_repair 52 = .ok (.iload_n 2, 1) := by decide +kernel
theorem dX5_repair_53 : decode cX5_repair 53 = .ok (.isub, 1) := by decide +kernel
theorem dX5_repair_54 : decode cX5_repair 54 = .ok (.ireturn, 1) := by decide +kernel
set_option maxRecDepth 20000 in
theorem ggX5_lightOn_X5_requireFibre : GoodIn wsX5_lightOn wsX5_requireFibre := goodIn_ca (goodIn_r _ [11, 12, 13, 3, 14, 15, 16, 17, 18, 19, 49, 50, 51, 52, 53, 54, 55, 56, 57, 58, 59, 60, 61, 62, 63, 64] (by decide +kernel) (by decide +kernel)) (goodIn_sub (fun _ h => List.mem_cons_of_mem _ (List.mem_append_right _ h)) (by decide +kernel))
set_option maxRecDepth 20000 in
theorem gX5_lightOn_X5_requireFibre : GoodIn wsX5_lightOn (wsV RX5 90 RX5 yX5_requireFibre wsX5_requireFibre) := goodIn_app (goodIn_of _ (by decide +kernel)) ggX5_lightOn_X5_requireFibre
set_option maxRecDepth 20000 in
theorem ggX5_lightOn_X1_wavelengthsOn : GoodIn wsX5_lightOn wsX1_wavelengthsOn := goodIn_r _ [24, 25, 26, 27, 28, 29, 30, 23, 31, 32, 33, 34, 35, 36, 37, 38, 39, 40, 41, 42, 43, 44, 45, 46, 47, 48, 65, 66, 67, 68, 69, 70, 71, 72, 73, 74, 75, 76] (by decide +kernel) (by decide +kernel)
set_option maxRecDepth 20000 in
theorem gX5_lightOn_X1_wavelengthsOn : GoodIn wsX5_lightOn (wsV RX5 112 RX1 yX1_wavelengthsOn wsX1_wavelengthsOn) := goodIn_app (goodIn_of _ (by decide +kernel)) ggX5_lightOn_X1_wavelengthsOn
theorem dX5_lightOn_0 : decode cX5_lightOn 0 = .ok (.aload_n 0, 1) := by decide +kernel
theorem dX5_lightOn_1 : decode cX5_lightOn 1 = .ok (.iload_n 1, 1) := by decide +kernel
theorem dX5_lightOn_2 : decode cX5_lightOn 2 = .ok (.invokevirtual 90, 3) := by decide +kernel
theorem dX5_lightOn_5 : decode cX5_lightOn 5 = .ok (.iload_n 2, 1) := by decide +kernel
theorem dX5_lightOn_6 : decode cX5_lightOn 6 = .ok (.ifCond .lt 14, 3) := by decide +kernel
theorem dX5_lightOn_9 : decode cX5_lightOn 9 = .ok (.iload_n 2, 1) := by decide +kernel
theorem dX5_lightOn_10 : decode cX5_lightOn 10 = .ok (.aload_n 0, 1) := by decide +kernel
theorem dX5_lightOn_11 : decode cX5_lightOn 11 = .ok (.getfield 12, 3) := by decide +kernel
theorem dX5_lightOn_14 : decode cX5_lightOn 14 = .ok (.getfield 107, 3) := by decide +kernel
theorem dX5_lightOn_17 : decode cX5_lightOn 17 = .ok (.if_icmp .lt 13, 3) := by decide +kernel
theorem dX5_lightOn_20 : decode cX5_lightOn 20 = .ok (.new 48, 3) := by decide +kernel
theorem dX5_lightOn_23 : decode cX5_lightOn 23 = .ok (.dup, 1) := by decide +kernel
theorem dX5_lightOn_24 : decode cX5_lightOn 24 = .ok (.ldc 110, 2) := by decide +kernel
theorem dX5_lightOn_26 : decode cX5_lightOn 26 = .ok (.invokespecial 52, 3) := by decide +kernel
theorem dX5_lightOn_29 : decode cX5_lightOn 29 = .ok (.athrow, 1) := by decide +kernel
theorem dX5_lightOn_30 : decode cX5_lightOn 30 = .ok (.iconst 0, 1) := by decide +kernel
theorem dX5_lightOn_31 : decode cX5_lightOn 31 = .ok (.istore_n 3, 1) := by decide +kernel
theorem dX5_lightOn_32 : decode cX5_lightOn 32 = .ok (.iload_n 3, 1) := by decide +kernel
theorem dX5_lightOn_33 : decode cX5_lightOn 33 = .ok (.aload_n 0, 1) := by decide +kernel
theorem dX5_lightOn_34 : decode cX5_lightOn 34 = .ok (.getfield 59, 3) := by decide +kernel
theorem dX5_lightOn_37 : decode cX5_lightOn 37 = .ok (.if_icmp .ge 28, 3) := by decide +kernel
theorem dX5_lightOn_40 : decode cX5_lightOn 40 = .ok (.aload_n 0, 1) := by decide +kernel
theorem dX5_lightOn_41 : decode cX5_lightOn 41 = .ok (.getfield 34, 3) := by decide +kernel
theorem dX5_lightOn_44 : decode cX5_lightOn 44 = .ok (.iload_n 3, 1) := by decide +kernel
theorem dX5_lightOn_45 : decode cX5_lightOn 45 = .ok (.aaload, 1) := by decide +kernel
theorem dX5_lightOn_46 : decode cX5_lightOn 46 = .ok (.iload_n 1, 1) := by decide +kernel
theorem dX5_lightOn_47 : decode cX5_lightOn 47 = .ok (.invokevirtual 112, 3) := by decide +kernel
theorem dX5_lightOn_50 : decode cX5_lightOn 50 = .ok (.iload_n 2, 1) := by decide +kernel
theorem dX5_lightOn_51 : decode cX5_lightOn 51 = .ok (.ishr, 1) := by decide +kernel
theorem dX5_lightOn_52 : decode cX5_lightOn 52 = .ok (.iconst 1, 1) := by decide +kernel
theorem dX5_lightOn_53 : decode cX5_lightOn 53 = .ok (.iand, 1) := by decide +kernel
theorem dX5_lightOn_54 : decode cX5_lightOn 54 = .ok (.ifCond .eq 5, 3) := by decide +kernel
theorem dX5_lightOn_57 : decode cX5_lightOn 57 = .ok (.iload_n 3, 1) := by decide +kernel
theorem dX5_lightOn_58 : decode cX5_lightOn 58 = .ok (.ireturn, 1) := by decide +kernel
theorem dX5_lightOn_59 : decode cX5_lightOn 59 = .ok (.iinc 3 1, 3) := by decide +kernel
theorem dX5_lightOn_62 : decode cX5_lightOn 62 = .ok (.goto (-30), 3) := by decide +kernel
theorem dX5_lightOn_65 : decode cX5_lightOn 65 = .ok (.iconst (-1), 1) := by decide +kernel
theorem dX5_lightOn_66 : decode cX5_lightOn 66 = .ok (.ireturn, 1) := by decide +kernel
set_option maxRecDepth 20000 in
theorem ggX5_load_X5_wavelengthsUsed : GoodIn wsX5_load wsX5_wavelengthsUsed := goodIn_r _ [11, 12, 13, 14, 15, 16, 17, 18, 19, 20, 21, 22, 23, 24, 25, 26, 27, 28, 29, 30, 31, 32, 33, 34, 35, 36, 37, 38, 39, 40, 41, 42, 50, 51, 52, 53, 54, 55, 56, 57, 66, 67, 68, 69, 70, 71, 72, 73, 74, 75, 76, 77] (by decide +kernel) (by decide +kernel)
set_option maxRecDepth 20000 in
theorem gX5_load_X5_wavelengthsUsed : GoodIn wsX5_load (wsV RX5 119 RX5 yX5_wavelengthsUsed wsX5_wavelengthsUsed) := goodIn_app (goodIn_of _ (by decide +kernel)) ggX5_load_X5_wavelengthsUsed
set_option maxRecDepth 20000 in
theorem ggX5_load_J6_bitCount_0f7a4 : GoodIn wsX5_load wsJ6_bitCount_0f7a4 := goodIn_r _ [46, 47, 48, 49] (by decide +kernel) (by decide +kernel)
set_option maxRecDepth 20000 in
theorem gX5_load_J6_bitCount_0f7a4 : GoodIn wsX5_load (va_wsS RX5 123 yJ6_bitCount_0f7a4 wsJ6_bitCount_0f7a4) := goodIn_app (goodIn_of _ (by decide +kernel)) ggX5_load_J6_bitCount_0f7a4
theorem dX5_load_0 : decode cX5_load 0 = .ok (.iconst 0, 1) := by decide +kernel
theorem dX5_load_1 : decode cX5_load 1 = .ok (.istore_n 1, 1) := by decide +kernel
theorem dX5_load_2 : decode cX5_load 2 = .ok (.iconst 0, 1) := by decide +kernel
theorem dX5_load_3 : decode cX5_load 3 = .ok (.istore_n 2, 1) := by decide +kernel
theorem dX5_load_4 : decode cX5_load 4 = .ok (.iload_n 2, 1) := by decide +kernel
theorem dX5_load_5 : decode cX5_load 5 = .ok (.aload_n 0, 1) := by decide +kernel
theorem dX5_load_6 : decode cX5_load 6 = .ok (.getfield 12, 3) := by decide +kernel
theorem dX5_load_9 : decode cX5_load 9 = .ok (.getfield 116, 3) := by decide +kernel
theorem dX5_load_12 : decode cX5_load 12 = .ok (.if_icmp .ge 23, 3) := by decide +kernel
theorem dX5_load_15 : decode cX5_load 15 = .ok (.iload_n 1, 1) := by decide +kernel
theorem dX5_load_16 : decode cX5_load 16 = .ok (.aload_n 0, 1) := by decide +kernel
theorem dX5_load_17 : decode cX5_load 17 = .ok (.iload_n 2, 1) := by decide +kernel
theorem dX5_load_18 : decode cX5_load 18 = .ok (.aconst_null, 1) := by decide +kernel
theorem dX5_load_19 : decode cX5_load 19 = .ok (.invokevirtual 119, 3) := by decide +kernel
theorem dX5_load_22 : decode cX5_load 22 = .ok (.invokestatic 123, 3) := by decide +kernel
theorem dX5_load_25 : decode cX5_load 25 = .ok (.invokestatic 128, 3) := by decide +kernel
theorem dX5_load_28 : decode cX5_load 28 = .ok (.istore_n 1, 1) := by decide +kernel
theorem dX5_load_29 : decode cX5_load 29 = .ok (.iinc 2 1, 3) := by decide +kernel
theorem dX5_load_32 : decode cX5_load 32 = .ok (.goto (-28), 3) := by decide +kernel
theorem dX5_load_35 : decode cX5_load 35 = .ok (.iload_n 1, 1) := by decide +kernel
theorem dX5_load_36 : decode cX5_load 36 = .ok (.ireturn, 1) := by decide +kernel
set_option maxRecDepth 20000 in
theorem ggX5_usage_X5_wavelengthsUsed : GoodIn wsX5_usage wsX5_wavelengthsUsed := goodIn_r _ [10, 11, 12, 13, 14, 15, 16, 17, 18, 19, 20, 21, 22, 23, 24, 25, 26, 27, 28, 29, 30, 31, 32, 33, 34, 35, 36, 37, 38, 39, 40, 41, 49, 50, 51, 52, 53, 54, 55, 56, 65, 66, 67, 68, 69, 70, 71, 72, 73, 74, 75, 76] (by decide +kernel) (by decide +kernel)
set_option maxRecDepth 20000 in
theorem gX5_usage_X5_wavelengthsUsed : GoodIn wsX5_usage (wsV RX5 119 RX5 yX5_wavelengthsUsed wsX5_wavelengthsUsed) := goodIn_app (goodIn_of _ (by decide +kernel)) ggX5_usage_X5_wavelengthsUsed
set_option maxRecDepth 20000 in
theorem ggX5_usage_J6_bitCount_0f7a4 : GoodIn wsX5_usage wsJ6_bitCount_0f7a4 := goodIn_r _ [45, 46, 47, 48] (by decide +kernel) (by decide +kernel)
set_option maxRecDepth 20000 in
theorem gX5_usage_J6_bitCount_0f7a4 : GoodIn wsX5_usage (va_wsS RX5 123 yJ6_bitCount_0f7a4 wsJ6_bitCount_0f7a4) := goodIn_app (goodIn_of _ (by decide +kernel)) ggX5_usage_J6_bitCount_0f7a4
theorem dX5_usage_0 : decode cX5_usage 0 = .ok (.aload_n 0, 1) := by decide +kernel
theorem dX5_usage_1 : decode cX5_usage 1 = .ok (.getfield 12, 3) := by decide +kernel
theorem dX5_usage_4 : decode cX5_usage 4 = .ok (.getfield 116, 3) := by decide +kernel
theorem dX5_usage_7 : decode cX5_usage 7 = .ok (.aload_n 0, 1) := by decide +kernel
theorem dX5_usage_8 : decode cX5_usage 8 = .ok (.getfield 12, 3) := by decide +kernel
theorem dX5_usage_11 : decode cX5_usage 11 = .ok (.getfield 107, 3) := by decide +kernel
theorem dX5_usage_14 : decode cX5_usage 14 = .ok (.imul, 1) := by decide +kernel
theorem dX5_usage_15 : decode cX5_usage 15 = .ok (.istore_n 1, 1) := by decide +kernel
theorem dX5_usage_16 : decode cX5_usage 16 = .ok (.iload_n 1, 1) := by decide +kernel
theorem dX5_usage_17 : decode cX5_usage 17 = .ok (.ifCond .ne 13, 3) := by decide +kernel
theorem dX5_usage_20 : decode cX5_usage 20 = .ok (.new 76, 3) := by decide +kernel
theorem dX5_usage_23 : decode cX5_usage 23 = .ok (.dup, 1) := by decide +kernel
theorem dX5_usage_24 : decode cX5_usage 24 = .ok (.ldc 134, 2) := by decide +kernel
theorem dX5_usage_26 : decode cX5_usage 26 = .ok (.invokespecial 80, 3) := by decide +kernel
theorem dX5_usage_29 : decode cX5_usage 29 = .ok (.athrow, 1) := by decide +kernel
theorem dX5_usage_30 : decode cX5_usage 30 = .ok (.iconst 0, 1) := by decide +kernel
theorem dX5_usage_31 : decode cX5_usage 31 = .ok (.istore_n 2, 1) := by decide +kernel
theorem dX5_usage_32 : decode cX5_usage 32 = .ok (.iconst 0, 1) := by decide +kernel
theorem dX5_usage_33 : decode cX5_usage 33 = .ok (.istore_n 3, 1) := by decide +kernel
theorem dX5_usage_34 : decode cX5_usage 34 = .ok (.iload_n 3, 1) := by decide +kernel
theorem dX5_usage_35 : decode cX5_usage 35 = .ok (.aload_n 0, 1) := by decide +kernel
theorem dX5_usage_36 : decode cX5_usage 36 = .ok (.getfield 12, 3) := by decide +kernel
theorem dX5_usage_39 : decode cX5_usage 39 = .ok (.getfield 116, 3) := by decide +kernel
theorem dX5_usage_42 : decode cX5_usage 42 = .ok (.if_icmp .ge 21, 3) := by decide +kernel
theorem dX5_usage_45 : decode cX5_usage 45 = .ok (.iload_n 2, 1) := by decide +kernel
theorem dX5_usage_46 : decode cX5_usage 46 = .ok (.aload_n 0, 1) := by decide +kernel
theorem dX5_usage_47 : decode cX5_usage 47 = .ok (.iload_n 3, 1) := by decide +kernel
theorem dX5_usage_48 : decode cX5_usage 48 = .ok (.aconst_null, 1) := by decide +kernel
theorem dX5_usage_49 : decode cX5_usage 49 = .ok (.invokevirtual 119, 3) := by decide +kernel
theorem dX5_usage_52 : decode cX5_usage 52 = .ok (.invokestatic 123, 3) := by decide +kernel
theorem dX5_usage_55 : decode cX5_usage 55 = .ok (.iadd, 1) := by decide +kernel
theorem dX5_usage_56 : decode cX5_usage 56 = .ok (.istore_n 2, 1) := by decide +kernel
theorem dX5_usage_57 : decode cX5_usage 57 = .ok (.iinc 3 1, 3) := by decide +kernel
theorem dX5_usage_60 : decode cX5_usage 60 = .ok (.goto (-26), 3) := by decide +kernel
theorem dX5_usage_63 : decode cX5_usage 63 = .ok (.iload_n 2, 1) := by decide +kernel
theorem dX5_usage_64 : decode cX5_usage 64 = .ok (.i2f, 1) := by decide +kernel
theorem dX5_usage_65 : decode cX5_usage 65 = .ok (.iload_n 1, 1) := by decide +kernel
theorem dX5_usage_66 : decode cX5_usage 66 = .ok (.i2f, 1) := by decide +kernel
theorem dX5_usage_67 : decode cX5_usage 67 = .ok (.fdiv, 1) := by decide +kernel
theorem dX5_usage_68 : decode cX5_usage 68 = .ok (.freturn, 1) := by decide +kernel
set_option maxRecDepth 20000 in
theorem ggX5_request_X5_areTwoNodes : GoodIn wsX5_request wsX5_areTwoNodes := goodIn_r _ [13, 14, 15, 16, 17, 18, 19, 20, 208, 209, 210, 211, 212, 213, 214, 215, 223, 224, 225, 226, 227, 228, 229, 230] (by decide +kernel) (by decide +kernel)
set_option maxRecDepth 20000 in
theorem gX5_request_X5_areTwoNodes : GoodIn wsX5_request (wsV RX5 66 RX5 yX5_areTwoNodes wsX5_areTwoNodes) := goodIn_app (goodIn_of _ (by decide +kernel)) ggX5_request_X5_areTwoNodes
set_option maxRecDepth 20000 in
theorem ggX5_request_X5_isRule : GoodIn wsX5_request wsX5_isRule := goodIn_r _ [23] (by decide +kernel) (by decide +kernel)
set_option maxRecDepth 20000 in
theorem gX5_request_X5_isRule : GoodIn wsX5_request (va_wsS RX5 136 yX5_isRule wsX5_isRule) := goodIn_app (goodIn_of _ (by decide +kernel)) ggX5_request_X5_isRule
set_option maxRecDepth 20000 in
theorem ggX5_request_X5_lightWithRoom : GoodIn wsX5_request wsX5_lightWithRoom := goodIn_r _ [27, 28, 29, 14, 30, 31, 6, 32, 33, 34, 35, 36, 37, 38, 39, 40, 41, 42, 43, 44, 45, 46, 47, 48, 49, 50, 51, 208, 209, 210, 211, 212, 213, 214, 215, 223, 224, 225, 226, 227, 228, 229, 230, 216, 217, 218, 219, 220, 221, 222, 231, 232, 233, 234, 235] (by decide +kernel) (by decide +kernel)
set_option maxRecDepth 20000 in
theorem gX5_request_X5_lightWithRoom : GoodIn wsX5_request (wsV RX5 143 RX5 yX5_lightWithRoom wsX5_lightWithRoom) := goodIn_app (goodIn_of _ (by decide +kernel)) ggX5_request_X5_lightWithRoom
set_option maxRecDepth 20000 in
theorem ggX5_request_X5_findWays : GoodIn wsX5_request wsX5_findWays := goodIn_r _ [55, 56, 57, 58, 59, 12, 60, 14, 61, 62, 63, 64, 65, 18, 66, 67, 68, 69, 70, 71, 72, 73, 74, 75, 76, 28, 29, 77, 78, 79, 35, 80, 37, 39, 40, 41, 42, 43, 44, 45, 81, 82, 83, 84, 85, 86, 87, 88, 89, 90, 91, 92, 93, 94, 95, 96, 97, 98, 99, 100, 101, 102, 103, 104, 105, 106, 107, 108, 109, 110, 111, 112, 113, 114, 115, 116, 117, 118, 119, 120, 121, 122, 123, 124, 125, 126, 127, 128, 129, 130, 131, 132, 133, 134, 135, 136, 137, 138, 139, 140, 141, 142, 143, 144, 145, 146, 147, 148, 149, 150, 151, 152, 153, 154, 155, 156, 157, 158, 159, 160, 161, 162, 163, 164, 165, 166, 167, 168, 169, 170, 171, 172, 173, 174, 175, 176, 177, 178, 179, 180, 181, 182, 183, 184, 185, 186, 187, 188, 208, 209, 210, 211, 212, 213, 214, 215, 223, 224, 225, 226, 227, 228, 229, 230, 236, 237, 238, 239, 240, 241, 242, 243, 244, 245, 246, 247, 248, 216, 217, 218, 219, 220, 221, 222, 231, 232, 233, 234, 235] (by decide +kernel) (by decide +kernel)
set_option maxRecDepth 20000 in
theorem gX5_request_X5_findWays : GoodIn wsX5_request (wsV RX5 147 RX5 yX5_findWays wsX5_findWays) := goodIn_app (goodIn_of _ (by decide +kernel)) ggX5_request_X5_findWays
set_option maxRecDepth 20000 in
theorem ggX5_request_X5_lightOnFoundWays : GoodIn wsX5_request wsX5_lightOnFoundWays := goodIn_ca (goodIn_r _ [192, 3, 4, 56, 193, 28, 29, 194, 195, 196, 197, 12, 198, 199, 42, 43, 35, 44, 45, 200, 201, 202, 203, 50, 51, 37, 39, 40, 204, 205, 206, 84, 207, 86, 138, 139, 91, 96, 208, 209, 210, 211, 212, 213, 214, 215, 236, 237, 238, 239, 240, 241, 242, 243, 244, 245, 246, 247, 248, 216, 217, 218, 219, 220, 221, 222, 231, 232, 233, 234, 235] (by decide +kernel) (by decide +kernel)) (goodIn_sub (fun _ h => List.mem_cons_of_mem _ (List.mem_append_right _ h)) (by decide +kernel))
set_option maxRecDepth 20000 in
theorem gX5_request_X5_lightOnFoundWays : GoodIn wsX5_request (wsV RX5 151 RX5 yX5_lightOnFoundWays wsX5_lightOnFoundWays) := goodIn_app (goodIn_of _ (by decide +kernel)) ggX5_request_X5_lightOnFoundWays
theorem dX5_request_0 : decode cX5_request 0 = .ok (.aload_n 0, 1) := by decide +kernel
theorem dX5_request_1 : decode cX5_request 1 = .ok (.iload_n 1, 1) := by decide +kernel
theorem dX5_request_2 : decode cX5_request 2 = .ok (.iload_n 2, 1) := by decide +kernel
theorem dX5_request_3 : decode cX5_request 3 = .ok (.invokevirtual 66, 3) := by decide +kernel
theorem dX5_request_6 : decode cX5_request 6 = .ok (.ifCond .eq 22, 3) := by decide +kernel
theorem dX5_request_9 : decode cX5_request 9 = .ok (.iload 4, 2) := by decide +kernel
theorem dX5_request_11 : decode cX5_request 11 = .ok (.invokestatic 136, 3) := by decide +kernel
theorem dX5_request_14 : decode cX5_request 14 = .ok (.ifCond .eq 14, 3) := by decide +kernel
theorem dX5_request_17 : decode cX5_request 17 = .ok (.iload_n 3, 1) := by decide +kernel
theorem dX5_request_18 : decode cX5_request 18 = .ok (.iconst 1, 1) := by decide +kernel
theorem dX5_request_19 : decode cX5_request 19 = .ok (.if_icmp .lt 9, 3) := by decide +kernel
theorem dX5_request_22 : decode cX5_request 22 = .ok (.iload_n 3, 1) := by decide +kernel
theorem dX5_request_23 : decode cX5_request 23 = .ok (.bipush 10, 2) := by decide +kernel
theorem dX5_request_25 : decode cX5_request 25 = .ok (.if_icmp .le 13, 3) := by decide +kernel
theorem dX5_request_28 : decode cX5_request 28 = .ok (.new 48, 3) := by decide +kernel
theorem dX5_request_31 : decode cX5_request 31 = .ok (.dup, 1) := by decide +kernel
theorem dX5_request_32 : decode cX5_request 32 = .ok (.ldc 139, 2) := by decide +kernel
theorem dX5_request_34 : decode cX5_request 34 = .ok (.invokespecial 52, 3) := by decide +kernel
theorem dX5_request_37 : decode cX5_request 37 = .ok (.athrow, 1) := by decide +kernel
theorem dX5_request_38 : decode cX5_request 38 = .ok (.aload_n 0, 1) := by decide +kernel
theorem dX5_request_39 : decode cX5_request 39 = .ok (.getfield 63, 3) := by decide +kernel
theorem dX5_request_42 : decode cX5_request 42 = .ok (.bipush 60, 2) := by decide +kernel
theorem dX5_request_44 : decode cX5_request 44 = .ok (.if_icmp .lt 13, 3) := by decide +kernel
theorem dX5_request_47 : decode cX5_request 47 = .ok (.new 76, 3) := by decide +kernel
theorem dX5_request_50 : decode cX5_request 50 = .ok (.dup, 1) := by decide +kernel
theorem dX5_request_51 : decode cX5_request 51 = .ok (.ldc 141, 2) := by decide +kernel
theorem dX5_request_53 : decode cX5_request 53 = .ok (.invokespecial 80, 3) := by decide +kernel
theorem dX5_request_56 : decode cX5_request 56 = .ok (.athrow, 1) := by decide +kernel
theorem dX5_request_57 : decode cX5_request 57 = .ok (.aload_n 0, 1) := by decide +kernel
theorem dX5_request_58 : decode cX5_request 58 = .ok (.iload_n 1, 1) := by decide +kernel
theorem dX5_request_59 : decode cX5_request 59 = .ok (.iload_n 2, 1) := by decide +kernel
theorem dX5_request_60 : decode cX5_request 60 = .ok (.iload_n 3, 1) := by decide +kernel
theorem dX5_request_61 : decode cX5_request 61 = .ok (.iload 4, 2) := by decide +kernel
theorem dX5_request_63 : decode cX5_request 63 = .ok (.iconst 2, 1) := by decide +kernel
theorem dX5_request_64 : decode cX5_request 64 = .ok (.if_icmp .ne 7, 3) := by decide +kernel
theorem dX5_request_67 : decode cX5_request 67 = .ok (.iconst 1, 1) := by decide +kernel
theorem dX5_request_68 : decode cX5_request 68 = .ok (.goto 4, 3) := by decide +kernel
theorem dX5_request_71 : decode cX5_request 71 = .ok (.iconst 0, 1) := by decide +kernel
theorem dX5_request_72 : decode cX5_request 72 = .ok (.invokevirtual 143, 3) := by decide +kernel
theorem dX5_request_75 : decode cX5_request 75 = .ok (.astore 5, 2) := by decide +kernel
theorem dX5_request_77 : decode cX5_request 77 = .ok (.aload 5, 2) := by decide +kernel
theorem dX5_request_79 : decode cX5_request 79 = .ok (.ifnonnull 19, 3) := by decide +kernel
theorem dX5_request_82 : decode cX5_request 82 = .ok (.aload_n 0, 1) := by decide +kernel
theorem dX5_request_83 : decode cX5_request 83 = .ok (.iload_n 1, 1) := by decide +kernel
theorem dX5_request_84 : decode cX5_request 84 = .ok (.iload_n 2, 1) := by decide +kernel
theorem dX5_request_85 : decode cX5_request 85 = .ok (.iload 4, 2) := by decide +kernel
theorem dX5_request_87 : decode cX5_request 87 = .ok (.invokevirtual 147, 3) := by decide +kernel
theorem dX5_request_90 : decode cX5_request 90 = .ok (.aload_n 0, 1) := by decide +kernel
theorem dX5_request_91 : decode cX5_request 91 = .ok (.iload_n 1, 1) := by decide +kernel
theorem dX5_request_92 : decode cX5_request 92 = .ok (.iload_n 2, 1) := by decide +kernel
theorem dX5_request_93 : decode cX5_request 93 = .ok (.invokevirtual 151, 3) := by decide +kernel
theorem dX5_request_96 : decode cX5_request 96 = .ok (.astore 5, 2) := by decide +kernel
theorem dX5_request_98 : decode cX5_request 98 = .ok (.aload 5, 2) := by decide +kernel
theorem dX5_request_100 : decode cX5_request 100 = .ok (.dup, 1) := by decide +kernel
theorem dX5_request_101 : decode cX5_request 101 = .ok (.getfield 155, 3) := by decide +kernel
theorem dX5_request_104 : decode cX5_request 104 = .ok (.iload_n 3, 1) := by decide +kernel
theorem dX5_request_105 : decode cX5_request 105 = .ok (.iadd, 1) := by decide +kernel
theorem dX5_request_106 : decode cX5_request 106 = .ok (.putfield 155, 3) := by decide +kernel
theorem dX5_request_109 : decode cX5_request 109 = .ok (.aload_n 0, 1) := by decide +kernel
theorem dX5_request_110 : decode cX5_request 110 = .ok (.getfield 41, 3) := by decide +kernel
theorem dX5_request_113 : decode cX5_request 113 = .ok (.aload_n 0, 1) := by decide +kernel
theorem dX5_request_114 : decode cX5_request 114 = .ok (.getfield 63, 3) := by decide +kernel
theorem dX5_request_117 : decode cX5_request 117 = .ok (.aload 5, 2) := by decide +kernel
theorem dX5_request_119 : decode cX5_request 119 = .ok (.aastore, 1) := by decide +kernel
theorem dX5_request_120 : decode cX5_request 120 = .ok (.aload_n 0, 1) := by decide +kernel
theorem dX5_request_121 : decode cX5_request 121 = .ok (.getfield 44, 3) := by decide +kernel
theorem dX5_request_124 : decode cX5_request 124 = .ok (.aload_n 0, 1) := by decide +kernel
theorem dX5_request_125 : decode cX5_request 125 = .ok (.getfield 63, 3) := by decide +kernel
theorem dX5_request_128 : decode cX5_request 128 = .ok (.iload_n 3, 1) := by decide +kernel
theorem dX5_request_129 : decode cX5_request 129 = .ok (.iastore, 1) := by decide +kernel
theorem dX5_request_130 : decode cX5_request 130 = .ok (.aload_n 0, 1) := by decide +kernel
theorem dX5_request_131 : decode cX5_request 131 = .ok (.dup, 1) := by decide +kernel
theorem dX5_request_132 : decode cX5_request 132 = .ok (.getfield 63, 3) := by decide +kernel
theorem dX5_request_135 : decode cX5_request 135 = .ok (.dup_x1, 1) := by decide +kernel
theorem dX5_request_136 : decode cX5_request 136 = .ok (.iconst 1, 1) := by decide +kernel
theorem dX5_request_137 : decode cX5_request 137 = .ok (.iadd, 1) := by decide +kernel
theorem dX5_request_138 : decode cX5_request 138 = .ok (.putfield 63, 3) := by decide +kernel
theorem dX5_request_141 : decode cX5_request 141 = .ok (.ireturn, 1) := by decide +kernel
set_option maxRecDepth 20000 in
theorem ggX5_newLength_X5_areTwoNodes : GoodIn wsX5_newLength wsX5_areTwoNodes := goodIn_r _ [13, 14, 15, 16, 17, 18, 19, 20, 171, 172, 173, 174, 175, 176, 177, 178, 197, 198, 199, 200, 201, 202, 203, 204] (by decide +kernel) (by decide +kernel)
set_option maxRecDepth 20000 in
theorem gX5_newLength_X5_areTwoNodes : GoodIn wsX5_newLength (wsV RX5 66 RX5 yX5_areTwoNodes wsX5_areTwoNodes) := goodIn_app (goodIn_of _ (by decide +kernel)) ggX5_newLength_X5_areTwoNodes
set_option maxRecDepth 20000 in
theorem ggX5_newLength_X5_isRule : GoodIn wsX5_newLength wsX5_isRule := goodIn_r _ [23] (by decide +kernel) (by decide +kernel)
set_option maxRecDepth 20000 in
theorem gX5_newLength_X5_isRule : GoodIn wsX5_newLength (va_wsS RX5 136 yX5_isRule wsX5_isRule) := goodIn_app (goodIn_of _ (by decide +kernel)) ggX5_newLength_X5_isRule
set_option maxRecDepth 20000 in
theorem ggX5_newLength_X5_findWays : GoodIn wsX5_newLength wsX5_findWays := goodIn_r _ [27, 5, 28, 29, 30, 12, 31, 14, 32, 33, 34, 35, 36, 18, 37, 38, 39, 40, 41, 42, 43, 44, 45, 46, 47, 48, 49, 50, 51, 52, 53, 54, 55, 56, 57, 58, 59, 60, 61, 62, 63, 64, 65, 66, 67, 68, 69, 70, 71, 72, 73, 74, 75, 76, 77, 78, 79, 80, 81, 82, 83, 84, 85, 86, 87, 88, 89, 90, 91, 92, 93, 94, 95, 96, 97, 98, 99, 100, 101, 102, 103, 104, 105, 106, 107, 108, 109, 110, 111, 112, 113, 114, 115, 116, 117, 118, 119, 120, 121, 122, 123, 124, 125, 126, 127, 128, 129, 130, 131, 132, 133, 134, 135, 136, 137, 138, 139, 140, 141, 142, 143, 144, 145, 146, 147, 148, 149, 150, 151, 152, 153, 154, 155, 156, 157, 158, 159, 160, 161, 162, 163, 164, 165, 166, 167, 168, 169, 170, 171, 172, 173, 174, 175, 176, 177, 178, 197, 198, 199, 200, 201, 202, 203, 204, 179, 180, 181, 182, 183, 184, 185, 186, 187, 188, 189, 190, 191, 205, 206, 207, 208, 209, 210, 211, 192, 193, 194, 195, 196] (by decide +kernel) (by decide +kernel)
set_option maxRecDepth 20000 in
theorem gX5_newLength_X5_findWays : GoodIn wsX5_newLength (wsV RX5 147 RX5 yX5_findWays wsX5_findWays) := goodIn_app (goodIn_of _ (by decide +kernel)) ggX5_newLength_X5_findWays
theorem dX5_newLength_0 : decode cX5_newLength 0 = .ok (.aload_n 0, 1) := by decide +kernel
theorem dX5_newLength_1 : decode cX5_newLength 1 = .ok (.iload_n 1, 1) := by decide +kernel
theorem dX5_newLength_2 : decode cX5_newLength 2 = .ok (.iload_n 2, 1) := by decide +kernel
theorem dX5_newLength_3 : decode cX5_newLength 3 = .ok (.invokevirtual 66, 3) := by decide +kernel
theorem dX5_newLength_6 : decode cX5_newLength 6 = .ok (.ifCond .eq 10, 3) := by decide +kernel
theorem dX5_newLength_9 : decode cX5_newLength 9 = .ok (.iload_n 3, 1) := by decide +kernel
theorem dX5_newLength_10 : decode cX5_newLength 10 = .ok (.invokestatic 136, 3) := by decide +kernel
theorem dX5_newLength_13 : decode cX5_newLength 13 = .ok (.ifCond .ne 13, 3) := by decide +kernel
theorem dX5_newLength_16 : decode cX5_newLength 16 = .ok (.new 48, 3) := by decide +kernel
theorem dX5_newLength_19 : decode cX5_newLength 19 = .ok (.dup, 1) := by decide +kernel
theorem dX5_newLength_20 : decode cX5_newLength 20 = .ok (.ldc 158, 2) := by decide +kernel
theorem dX5_newLength_22 : decode cX5_newLength 22 = .ok (.invokespecial 52, 3) := by decide +kernel
theorem dX5_newLength_25 : decode cX5_newLength 25 = .ok (.athrow, 1) := by decide +kernel
theorem dX5_newLength_26 : decode cX5_newLength 26 = .ok (.aload_n 0, 1) := by decide +kernel
theorem dX5_newLength_27 : decode cX5_newLength 27 = .ok (.iload_n 1, 1) := by decide +kernel
theorem dX5_newLength_28 : decode cX5_newLength 28 = .ok (.iload_n 2, 1) := by decide +kernel
theorem dX5_newLength_29 : decode cX5_newLength 29 = .ok (.iload_n 3, 1) := by decide +kernel
theorem dX5_newLength_30 : decode cX5_newLength 30 = .ok (.invokevirtual 147, 3) := by decide +kernel
theorem dX5_newLength_33 : decode cX5_newLength 33 = .ok (.aload_n 0, 1) := by decide +kernel
theorem dX5_newLength_34 : decode cX5_newLength 34 = .ok (.getfield 21, 3) := by decide +kernel
theorem dX5_newLength_37 : decode cX5_newLength 37 = .ok (.getfield 160, 3) := by decide +kernel
theorem dX5_newLength_40 : decode cX5_newLength 40 = .ok (.astore 4, 2) := by decide +kernel
theorem dX5_newLength_42 : decode cX5_newLength 42 = .ok (.aload 4, 2) := by decide +kernel
theorem dX5_newLength_44 : decode cX5_newLength 44 = .ok (.ifnonnull 13, 3) := by decide +kernel
theorem dX5_newLength_47 : decode cX5_newLength 47 = .ok (.new 76, 3) := by decide +kernel
theorem dX5_newLength_50 : decode cX5_newLength 50 = .ok (.dup, 1) := by decide +kernel
theorem dX5_newLength_51 : decode cX5_newLength 51 = .ok (.ldc 164, 2) := by decide +kernel
theorem dX5_newLength_53 : decode cX5_newLength 53 = .ok (.invokespecial 80, 3) := by decide +kernel
theorem dX5_newLength_56 : decode cX5_newLength 56 = .ok (.athrow, 1) := by decide +kernel
theorem dX5_newLength_57 : decode cX5_newLength 57 = .ok (.aload_n 0, 1) := by decide +kernel
theorem dX5_newLength_58 : decode cX5_newLength 58 = .ok (.getfield 21, 3) := by decide +kernel
theorem dX5_newLength_61 : decode cX5_newLength 61 = .ok (.getfield 166, 3) := by decide +kernel
theorem dX5_newLength_64 : decode cX5_newLength 64 = .ok (.astore 5, 2) := by decide +kernel
theorem dX5_newLength_66 : decode cX5_newLength 66 = .ok (.aload 5, 2) := by decide +kernel
theorem dX5_newLength_68 : decode cX5_newLength 68 = .ok (.ifnonnull 11, 3) := by decide +kernel
theorem dX5_newLength_71 : decode cX5_newLength 71 = .ok (.aload 4, 2) := by decide +kernel
theorem dX5_newLength_73 : decode cX5_newLength 73 = .ok (.getfield 169, 3) := by decide +kernel
theorem dX5_newLength_76 : decode cX5_newLength 76 = .ok (.goto 14, 3) := by decide +kernel
theorem dX5_newLength_79 : decode cX5_newLength 79 = .ok (.aload 4, 2) := by decide +kernel
theorem dX5_newLength_81 : decode cX5_newLength 81 = .ok (.getfield 169, 3) := by decide +kernel
theorem dX5_newLength_84 : decode cX5_newLength 84 = .ok (.aload 5, 2) := by decide +kernel
theorem dX5_newLength_86 : decode cX5_newLength 86 = .ok (.getfield 169, 3) := by decide +kernel
theorem dX5_newLength_89 : decode cX5_newLength 89 = .ok (.iadd, 1) := by decide +kernel
theorem dX5_newLength_90 : decode cX5_newLength 90 = .ok (.ireturn, 1) := by decide +kernel
set_option maxRecDepth 20000 in
theorem ggX5_release_X5_carrierOf : GoodIn wsX5_release wsX5_carrierOf := goodIn_ca (goodIn_ca (goodIn_r _ [8, 9, 10, 11, 12, 13, 1, 14, 15, 16, 17, 18, 19, 20, 21] (by decide +kernel) (by decide +kernel)) (goodIn_sub (fun _ h => List.mem_cons_of_mem _ (List.mem_append_left _ (List.mem_append_right _ h))) (by decide +kernel))) (goodIn_sub (fun _ h => List.mem_cons_of_mem _ (List.mem_append_right _ h)) (by decide +kernel))
set_option maxRecDepth 20000 in
theorem gX5_release_X5_carrierOf : GoodIn wsX5_release (wsV RX5 174 RX5 yX5_carrierOf wsX5_carrierOf) := goodIn_app (goodIn_of _ (by decide +kernel)) ggX5_release_X5_carrierOf
theorem dX5_release_0 : decode cX5_release 0 = .ok (.aload_n 0, 1) := by decide +kernel
theorem dX5_release_1 : decode cX5_release 1 = .ok (.iload_n 1, 1) := by decide +kernel
theorem dX5_release_2 : decode cX5_release 2 = .ok (.invokevirtual 174, 3) := by decide +kernel
theorem dX5_release_5 : decode cX5_release 5 = .ok (.astore_n 2, 1) := by decide +kernel
theorem dX5_release_6 : decode cX5_release 6 = .ok (.aload_n 0, 1) := by decide +kernel
theorem dX5_release_7 : decode cX5_release 7 = .ok (.getfield 41, 3) := by decide +kernel
theorem dX5_release_10 : decode cX5_release 10 = .ok (.iload_n 1, 1) := by decide +kernel
theorem dX5_release_11 : decode cX5_release 11 = .ok (.aconst_null, 1) := by decide +kernel
theorem dX5_release_12 : decode cX5_release 12 = .ok (.aastore, 1) := by decide +kernel
theorem dX5_release_13 : decode cX5_release 13 = .ok (.aload_n 2, 1) := by decide +kernel
theorem dX5_release_14 : decode cX5_release 14 = .ok (.dup, 1) := by decide +kernel
theorem dX5_release_15 : decode cX5_release 15 = .ok (.getfield 155, 3) := by decide +kernel
theorem dX5_release_18 : decode cX5_release 18 = .ok (.aload_n 0, 1) := by decide +kernel
theorem dX5_release_19 : decode cX5_release 19 = .ok (.getfield 44, 3) := by decide +kernel
theorem dX5_release_22 : decode cX5_release 22 = .ok (.iload_n 1, 1) := by decide +kernel
theorem dX5_release_23 : decode cX5_release 23 = .ok (.iaload, 1) := by decide +kernel
theorem dX5_release_24 : decode cX5_release 24 = .ok (.isub, 1) := by decide +kernel
theorem dX5_release_25 : decode cX5_release 25 = .ok (.putfield 155, 3) := by decide +kernel
theorem dX5_release_28 : decode cX5_release 28 = .ok (.aload_n 2, 1) := by decide +kernel
theorem dX5_release_29 : decode cX5_release 29 = .ok (.getfield 155, 3) := by decide +kernel
theorem dX5_release_32 : decode cX5_release 32 = .ok (.ireturn, 1) := by decide +kernel
set_option maxRecDepth 20000 in
theorem ggX5_lightOf_X5_carrierOf : GoodIn wsX5_lightOf wsX5_carrierOf := goodIn_ca (goodIn_ca (goodIn_r _ [6, 7, 8, 9, 10, 11, 12, 20, 21, 22, 23, 24, 25, 26, 27] (by decide +kernel) (by decide +kernel)) (goodIn_sub (fun _ h => List.mem_cons_of_mem _ (List.mem_append_left _ (List.mem_append_right _ h))) (by decide +kernel))) (goodIn_sub (fun _ h => List.mem_cons_of_mem _ (List.mem_append_right _ h)) (by decide +kernel))
set_option maxRecDepth 20000 in
theorem gX5_lightOf_X5_carrierOf : GoodIn wsX5_lightOf (wsV RX5 174 RX5 yX5_carrierOf wsX5_carrierOf) := goodIn_app (goodIn_of _ (by decide +kernel)) ggX5_lightOf_X5_carrierOf
theorem dX5_lightOf_0 : decode cX5_lightOf 0 = .ok (.aload_n 0, 1) := by decide +kernel
theorem dX5_lightOf_1 : decode cX5_lightOf 1 = .ok (.iload_n 1, 1) := by decide +kernel
theorem dX5_lightOf_2 : decode cX5_lightOf 2 = .ok (.invokevirtual 174, 3) := by decide +kernel
theorem dX5_lightOf_5 : decode cX5_lightOf 5 = .ok (.getfield 178, 3) := by decide +kernel
theorem dX5_lightOf_8 : decode cX5_lightOf 8 = .ok (.ireturn, 1) := by decide +kernel
theorem dX5_requests_0 : decode cX5_requests 0 = .ok (.aload_n 0, 1) := by decide +kernel
theorem dX5_requests_1 : decode cX5_requests 1 = .ok (.getfield 63, 3) := by decide +kernel
theorem dX5_requests_4 : decode cX5_requests 4 = .ok (.ireturn, 1) := by decide +kernel
theorem dX5_lights_0 : decode cX5_lights 0 = .ok (.aload_n 0, 1) := by decide +kernel
theorem dX5_lights_1 : decode cX5_lights 1 = .ok (.getfield 59, 3) := by decide +kernel
theorem dX5_lights_4 : decode cX5_lights 4 = .ok (.ireturn, 1) := by decide +kernel
set_option maxRecDepth 20000 in
theorem ggX5_state_X5_existingLight : GoodIn wsX5_state wsX5_existingLight := goodIn_ca (goodIn_r _ [7, 8, 9, 10, 11, 27, 28, 29, 30, 31, 32, 33, 34] (by decide +kernel) (by decide +kernel)) (goodIn_sub (fun _ h => List.mem_cons_of_mem _ (List.mem_append_right _ h)) (by decide +kernel))
set_option maxRecDepth 20000 in
theorem gX5_state_X5_existingLight : GoodIn wsX5_state (wsV RX5 181 RX5 yX5_existingLight wsX5_existingLight) := goodIn_app (goodIn_of _ (by decide +kernel)) ggX5_state_X5_existingLight
set_option maxRecDepth 20000 in
theorem ggX5_state_X1_isGone : GoodIn wsX5_state wsX1_isGone := goodIn_r _ [16, 17, 43, 44, 45, 46, 47, 48, 49] (by decide +kernel) (by decide +kernel)
set_option maxRecDepth 20000 in
theorem gX5_state_X1_isGone : GoodIn wsX5_state (wsV RX5 184 RX1 yX1_isGone wsX1_isGone) := goodIn_app (goodIn_of _ (by decide +kernel)) ggX5_state_X1_isGone
set_option maxRecDepth 20000 in
theorem ggX5_state_X1_isUp : GoodIn wsX5_state wsX1_isUp := goodIn_r _ [21, 22, 23, 24, 25, 26, 13, 14, 15, 16, 17, 43, 44, 45, 46, 47, 48, 49, 50, 51, 52, 53, 54] (by decide +kernel) (by decide +kernel)
set_option maxRecDepth 20000 in
theorem gX5_state_X1_isUp : GoodIn wsX5_state (wsV RX5 188 RX1 yX1_isUp wsX1_isUp) := goodIn_app (goodIn_of _ (by decide +kernel)) ggX5_state_X1_isUp
theorem dX5_state_0 : decode cX5_state 0 = .ok (.aload_n 0, 1) := by decide +kernel
theorem dX5_state_1 : decode cX5_state 1 = .ok (.iload_n 1, 1) := by decide +kernel
theorem dX5_state_2 : decode cX5_state 2 = .ok (.invokevirtual 181, 3) := by decide +kernel
theorem dX5_state_5 : decode cX5_state 5 = .ok (.astore_n 2, 1) := by decide +kernel
theorem dX5_state_6 : decode cX5_state 6 = .ok (.aload_n 2, 1) := by decide +kernel
theorem dX5_state_7 : decode cX5_state 7 = .ok (.invokevirtual 184, 3) := by decide +kernel
theorem dX5_state_10 : decode cX5_state 10 = .ok (.ifCond .eq 5, 3) := by decide +kernel
theorem dX5_state_13 : decode cX5_state 13 = .ok (.iconst 2, 1) := by decide +kernel
theorem dX5_state_14 : decode cX5_state 14 = .ok (.ireturn, 1) := by decide +kernel
theorem dX5_state_15 : decode cX5_state 15 = .ok (.aload_n 2, 1) := by decide +kernel
theorem dX5_state_16 : decode cX5_state 16 = .ok (.aload_n 0, 1) := by decide +kernel
theorem dX5_state_17 : decode cX5_state 17 = .ok (.getfield 12, 3) := by decide +kernel
theorem dX5_state_20 : decode cX5_state 20 = .ok (.getfield 102, 3) := by decide +kernel
theorem dX5_state_23 : decode cX5_state 23 = .ok (.invokevirtual 188, 3) := by decide +kernel
theorem dX5_state_26 : decode cX5_state 26 = .ok (.ifCond .eq 7, 3) := by decide +kernel
theorem dX5_state_29 : decode cX5_state 29 = .ok (.iconst 0, 1) := by decide +kernel
theorem dX5_state_30 : decode cX5_state 30 = .ok (.goto 4, 3) := by decide +kernel
theorem dX5_state_33 : decode cX5_state 33 = .ok (.iconst 1, 1) := by decide +kernel
theorem dX5_state_34 : decode cX5_state 34 = .ok (.ireturn, 1) := by decide +kernel
set_option maxRecDepth 20000 in
theorem ggX5_units_X5_existingLight : GoodIn wsX5_units wsX5_existingLight := goodIn_ca (goodIn_r _ [6, 7, 8, 9, 10, 18, 19, 20, 21, 22, 23, 24, 25] (by decide +kernel) (by decide +kernel)) (goodIn_sub (fun _ h => List.mem_cons_of_mem _ (List.mem_append_right _ h)) (by decide +kernel))
set_option maxRecDepth 20000 in
theorem gX5_units_X5_existingLight : GoodIn wsX5_units (wsV RX5 181 RX5 yX5_existingLight wsX5_existingLight) := goodIn_app (goodIn_of _ (by decide +kernel)) ggX5_units_X5_existingLight
theorem dX5_units_0 : decode cX5_units 0 = .ok (.aload_n 0, 1) := by decide +kernel
theorem dX5_units_1 : decode cX5_units 1 = .ok (.iload_n 1, 1) := by decide +kernel
theorem dX5_units_2 : decode cX5_units 2 = .ok (.invokevirtual 181, 3) := by decide +kernel
theorem dX5_units_5 : decode cX5_units 5 = .ok (.getfield 155, 3) := by decide +kernel
theorem dX5_units_8 : decode cX5_units 8 = .ok (.ireturn, 1) := by decide +kernel
set_option maxRecDepth 20000 in
theorem ggX5_channels_X5_wayOf : GoodIn wsX5_channels wsX5_wayOf := goodIn_ca (goodIn_r _ [6, 7, 8, 9, 10, 11, 5, 12, 13, 14, 15, 16, 17, 18, 19, 20, 21, 22, 23, 24, 25, 26, 27, 33, 34, 35, 36, 37, 38, 39, 40, 41, 42, 43, 44, 45, 46, 47] (by decide +kernel) (by decide +kernel)) (goodIn_sub (fun _ h => List.mem_cons_of_mem _ (List.mem_append_right _ h)) (by decide +kernel))
set_option maxRecDepth 20000 in
theorem gX5_channels_X5_wayOf : GoodIn wsX5_channels (wsV RX5 191 RX5 yX5_wayOf wsX5_wayOf) := goodIn_app (goodIn_of _ (by decide +kernel)) ggX5_channels_X5_wayOf
theorem dX5_channels_0 : decode cX5_channels 0 = .ok (.aload_n 0, 1) := by decide +kernel
theorem dX5_channels_1 : decode cX5_channels 1 = .ok (.iload_n 1, 1) := by decide +kernel
theorem dX5_channels_2 : decode cX5_channels 2 = .ok (.iload_n 2, 1) := by decide +kernel
theorem dX5_channels_3 : decode cX5_channels 3 = .ok (.invokevirtual 191, 3) := by decide +kernel
theorem dX5_channels_6 : decode cX5_channels 6 = .ok (.getfield 195, 3) := by decide +kernel
theorem dX5_channels_9 : decode cX5_channels 9 = .ok (.ireturn, 1) := by decide +kernel
set_option maxRecDepth 20000 in
theorem ggX5_channel_X5_wayOf : GoodIn wsX5_channel wsX5_wayOf := goodIn_ca (goodIn_r _ [8, 1, 2, 9, 10, 11, 7, 12, 13, 14, 15, 16, 17, 18, 19, 20, 21, 22, 23, 24, 25, 26, 27, 40, 41, 42, 43, 44, 45, 46, 47, 48, 49, 50, 51, 52, 53, 54] (by decide +kernel) (by decide +kernel)) (goodIn_sub (fun _ h => List.mem_cons_of_mem _ (List.mem_append_right _ h)) (by decide +kernel))
set_option maxRecDepth 20000 in
theorem gX5_channel_X5_wayOf : GoodIn wsX5_channel (wsV RX5 191 RX5 yX5_wayOf wsX5_wayOf) := goodIn_app (goodIn_of _ (by decide +kernel)) ggX5_channel_X5_wayOf
set_option maxRecDepth 20000 in
theorem ggX5_channel_X3_channelAt : GoodIn wsX5_channel wsX3_channelAt := goodIn_r _ [32, 33, 34, 35, 36, 37, 38, 39] (by decide +kernel) (by decide +kernel)
set_option maxRecDepth 20000 in
theorem gX5_channel_X3_channelAt : GoodIn wsX5_channel (wsV RX5 203 RX3 yX3_channelAt wsX3_channelAt) := goodIn_app (goodIn_of _ (by decide +kernel)) ggX5_channel_X3_channelAt
theorem dX5_channel_0 : decode cX5_channel 0 = .ok (.aload_n 0, 1) := by decide +kernel
theorem dX5_channel_1 : decode cX5_channel 1 = .ok (.iload_n 1, 1) := by decide +kernel
theorem dX5_channel_2 : decode cX5_channel 2 = .ok (.iload_n 2, 1) := by decide +kernel
theorem dX5_channel_3 : decode cX5_channel 3 = .ok (.invokevirtual 191, 3) := by decide +kernel
theorem dX5_channel_6 : decode cX5_channel 6 = .ok (.astore 4, 2) := by decide +kernel
theorem dX5_channel_8 : decode cX5_channel 8 = .ok (.iload_n 3, 1) := by decide +kernel
theorem dX5_channel_9 : decode cX5_channel 9 = .ok (.ifCond .lt 12, 3) := by decide +kernel
theorem dX5_channel_12 : decode cX5_channel 12 = .ok (.iload_n 3, 1) := by decide +kernel
theorem dX5_channel_13 : decode cX5_channel 13 = .ok (.aload 4, 2) := by decide +kernel
theorem dX5_channel_15 : decode cX5_channel 15 = .ok (.getfield 195, 3) := by decide +kernel
theorem dX5_channel_18 : decode cX5_channel 18 = .ok (.if_icmp .lt 13, 3) := by decide +kernel
theorem dX5_channel_21 : decode cX5_channel 21 = .ok (.new 198, 3) := by decide +kernel
theorem dX5_channel_24 : decode cX5_channel 24 = .ok (.dup, 1) := by decide +kernel
theorem dX5_channel_25 : decode cX5_channel 25 = .ok (.ldc 200, 2) := by decide +kernel
theorem dX5_channel_27 : decode cX5_channel 27 = .ok (.invokespecial 202, 3) := by decide +kernel
theorem dX5_channel_30 : decode cX5_channel 30 = .ok (.athrow, 1) := by decide +kernel
theorem dX5_channel_31 : decode cX5_channel 31 = .ok (.aload 4, 2) := by decide +kernel
theorem dX5_channel_33 : decode cX5_channel 33 = .ok (.iload_n 3, 1) := by decide +kernel
theorem dX5_channel_34 : decode cX5_channel 34 = .ok (.invokevirtual 203, 3) := by decide +kernel
theorem dX5_channel_37 : decode cX5_channel 37 = .ok (.ireturn, 1) := by decide +kernel
set_option maxRecDepth 20000 in
theorem ggX5_reroute_X5_existingLight : GoodIn wsX5_reroute wsX5_existingLight := goodIn_ca (goodIn_r _ [14, 15, 16, 17, 18, 157, 158, 159, 160, 161, 162, 163, 164] (by decide +kernel) (by decide +kernel)) (goodIn_sub (fun _ h => List.mem_cons_of_mem _ (List.mem_append_right _ h)) (by decide +kernel))
set_option maxRecDepth 20000 in
theorem gX5_reroute_X5_existingLight : GoodIn wsX5_reroute (wsV RX5 181 RX5 yX5_existingLight wsX5_existingLight) := goodIn_app (goodIn_of _ (by decide +kernel)) ggX5_reroute_X5_existingLight
set_option maxRecDepth 20000 in
theorem ggX5_reroute_X1_isGone : GoodIn wsX5_reroute wsX1_isGone := goodIn_r _ [23, 24, 150, 151, 152, 153, 154, 155, 156] (by decide +kernel) (by decide +kernel)
set_option maxRecDepth 20000 in
theorem gX5_reroute_X1_isGone : GoodIn wsX5_reroute (wsV RX5 184 RX1 yX1_isGone wsX1_isGone) := goodIn_app (goodIn_of _ (by decide +kernel)) ggX5_reroute_X1_isGone
set_option maxRecDepth 20000 in
theorem ggX5_reroute_X5_openChannels : GoodIn wsX5_reroute wsX5_openChannels := goodIn_r _ [28, 29, 30, 4, 31, 32, 33, 34, 35, 36, 37, 38, 39, 40, 41, 42, 43, 44, 45, 13, 46, 17, 18, 47, 48, 49, 22, 50, 51, 52, 53, 54, 20, 21, 23, 24, 55, 56, 57, 58, 59, 60, 61, 62, 63, 64, 65, 66, 67, 68, 69, 70, 157, 158, 159, 160, 161, 162, 163, 164, 183, 184, 185, 186, 187, 188, 189, 190, 165, 166, 167, 168, 169, 170, 171, 172, 173, 174, 175, 176, 177, 150, 151, 152, 153, 154, 155, 156, 178, 179, 180, 181, 182] (by decide +kernel) (by decide +kernel)
set_option maxRecDepth 20000 in
theorem gX5_reroute_X5_openChannels : GoodIn wsX5_reroute (wsV RX5 212 RX5 yX5_openChannels wsX5_openChannels) := goodIn_app (goodIn_of _ (by decide +kernel)) ggX5_reroute_X5_openChannels
set_option maxRecDepth 20000 in
theorem ggX5_reroute_X4_findFirst : GoodIn wsX5_reroute wsX4_findFirst := goodIn_r _ [75, 76, 77, 78, 79, 80, 74, 81, 82, 83, 84, 85, 86, 87, 88, 89, 90, 91, 92, 93, 94, 95, 96, 97, 98, 99, 100, 101, 102, 103, 104, 105, 106, 107, 108, 109, 110, 58, 111, 60, 112, 113, 65, 70, 114, 115, 116, 117, 118, 13, 119, 120, 121, 122, 123, 124, 125, 126, 35, 127, 128, 129, 130, 33, 34, 36, 37, 131, 132, 133, 134, 135, 136, 137, 138, 139, 140, 141, 142, 143, 144, 145, 165, 166, 167, 168, 169, 170, 171, 172, 173, 174, 175, 176, 177, 183, 184, 185, 186, 187, 188, 189, 190, 178, 179, 180, 181, 182] (by decide +kernel) (by decide +kernel)
set_option maxRecDepth 20000 in
theorem gX5_reroute_X4_findFirst : GoodIn wsX5_reroute (wsV RX5 222 RX4 yX4_findFirst wsX4_findFirst) := goodIn_app (goodIn_of _ (by decide +kernel)) ggX5_reroute_X4_findFirst
set_option maxRecDepth 20000 in
theorem ggX5_reroute_X3_become : GoodIn wsX5_reroute wsX3_become := goodIn_r _ [149, 60, 112, 113, 65, 70, 178, 179, 180, 181, 182] (by decide +kernel) (by decide +kernel)
set_option maxRecDepth 20000 in
theorem gX5_reroute_X3_become : GoodIn wsX5_reroute (wsV RX5 228 RX3 yX3_become wsX3_become) := goodIn_app (goodIn_of _ (by decide +kernel)) ggX5_reroute_X3_become
theorem dX5_reroute_0 : decode cX5_reroute 0 = .ok (.aload_n 0, 1) := by decide +kernel
theorem dX5_reroute_1 : decode cX5_reroute 1 = .ok (.iload_n 1, 1) := by decide +kernel
theorem dX5_reroute_2 : decode cX5_reroute 2 = .ok (.invokevirtual 181, 3) := by decide +kernel
theorem dX5_reroute_5 : decode cX5_reroute 5 = .ok (.astore_n 2, 1) := by decide +kernel
theorem dX5_reroute_6 : decode cX5_reroute 6 = .ok (.aload_n 2, 1) := by decide +kernel
theorem dX5_reroute_7 : decode cX5_reroute 7 = .ok (.invokevirtual 184, 3) := by decide +kernel
theorem dX5_reroute_10 : decode cX5_reroute 10 = .ok (.ifCond .ne 10, 3) := by decide +kernel
theorem dX5_reroute_13 : decode cX5_reroute 13 = .ok (.aload_n 2, 1) := by decide +kernel
theorem dX5_reroute_14 : decode cX5_reroute 14 = .ok (.getfield 206, 3) := by decide +kernel
theorem dX5_reroute_17 : decode cX5_reroute 17 = .ok (.ifCond .eq 13, 3) := by decide +kernel
theorem dX5_reroute_20 : decode cX5_reroute 20 = .ok (.new 76, 3) := by decide +kernel
theorem dX5_reroute_23 : decode cX5_reroute 23 = .ok (.dup, 1) := by decide +kernel
theorem dX5_reroute_24 : decode cX5_reroute 24 = .ok (.ldc 210, 2) := by decide +kernel
theorem dX5_reroute_26 : decode cX5_reroute 26 = .ok (.invokespecial 80, 3) := by decide +kernel
theorem dX5_reroute_29 : decode cX5_reroute 29 = .ok (.athrow, 1) := by decide +kernel
theorem dX5_reroute_30 : decode cX5_reroute 30 = .ok (.aload_n 0, 1) := by decide +kernel
theorem dX5_reroute_31 : decode cX5_reroute 31 = .ok (.aload_n 2, 1) := by decide +kernel
theorem dX5_reroute_32 : decode cX5_reroute 32 = .ok (.invokevirtual 212, 3) := by decide +kernel
theorem dX5_reroute_35 : decode cX5_reroute 35 = .ok (.aload_n 0, 1) := by decide +kernel
theorem dX5_reroute_36 : decode cX5_reroute 36 = .ok (.getfield 21, 3) := by decide +kernel
theorem dX5_reroute_39 : decode cX5_reroute 39 = .ok (.aload_n 2, 1) := by decide +kernel
theorem dX5_reroute_40 : decode cX5_reroute 40 = .ok (.getfield 216, 3) := by decide +kernel
theorem dX5_reroute_43 : decode cX5_reroute 43 = .ok (.aload_n 2, 1) := by decide +kernel
theorem dX5_reroute_44 : decode cX5_reroute 44 = .ok (.getfield 219, 3) := by decide +kernel
theorem dX5_reroute_47 : decode cX5_reroute 47 = .ok (.invokevirtual 222, 3) := by decide +kernel
theorem dX5_reroute_50 : decode cX5_reroute 50 = .ok (.aload_n 0, 1) := by decide +kernel
theorem dX5_reroute_51 : decode cX5_reroute 51 = .ok (.getfield 21, 3) := by decide +kernel
theorem dX5_reroute_54 : decode cX5_reroute 54 = .ok (.getfield 160, 3) := by decide +kernel
theorem dX5_reroute_57 : decode cX5_reroute 57 = .ok (.astore_n 3, 1) := by decide +kernel
theorem dX5_reroute_58 : decode cX5_reroute 58 = .ok (.aload_n 3, 1) := by decide +kernel
theorem dX5_reroute_59 : decode cX5_reroute 59 = .ok (.ifnonnull 13, 3) := by decide +kernel
theorem dX5_reroute_62 : decode cX5_reroute 62 = .ok (.new 76, 3) := by decide +kernel
theorem dX5_reroute_65 : decode cX5_reroute 65 = .ok (.dup, 1) := by decide +kernel
theorem dX5_reroute_66 : decode cX5_reroute 66 = .ok (.ldc 225, 2) := by decide +kernel
theorem dX5_reroute_68 : decode cX5_reroute 68 = .ok (.invokespecial 80, 3) := by decide +kernel
theorem dX5_reroute_71 : decode cX5_reroute 71 = .ok (.athrow, 1) := by decide +kernel
theorem dX5_reroute_72 : decode cX5_reroute 72 = .ok (.aload_n 2, 1) := by decide +kernel
theorem dX5_reroute_73 : decode cX5_reroute 73 = .ok (.getfield 227, 3) := by decide +kernel
theorem dX5_reroute_76 : decode cX5_reroute 76 = .ok (.aload_n 3, 1) := by decide +kernel
theorem dX5_reroute_77 : decode cX5_reroute 77 = .ok (.invokevirtual 228, 3) := by decide +kernel
theorem dX5_reroute_80 : decode cX5_reroute 80 = .ok (.aload_n 3, 1) := by decide +kernel
theorem dX5_reroute_81 : decode cX5_reroute 81 = .ok (.getfield 169, 3) := by decide +kernel
theorem dX5_reroute_84 : decode cX5_reroute 84 = .ok (.ireturn, 1) := by decide +kernel
set_option maxRecDepth 20000 in
theorem ggX5_merge_X5_canMerge : GoodIn wsX5_merge wsX5_canMerge := goodIn_r _ [9, 10, 11, 12, 13, 14, 15, 16, 17, 18, 19, 20, 21, 22, 23, 24, 25, 26, 27, 28, 29, 30, 31, 32, 33, 34, 35, 42, 43, 44, 45, 46, 47, 48, 49, 50, 51, 52, 53, 54, 55, 56, 57, 58, 59, 60, 61, 62, 63, 64, 65, 66, 67, 68, 69] (by decide +kernel) (by decide +kernel)
set_option maxRecDepth 20000 in
theorem gX5_merge_X5_canMerge : GoodIn wsX5_merge (wsV RX5 232 RX5 yX5_canMerge wsX5_canMerge) := goodIn_app (goodIn_of _ (by decide +kernel)) ggX5_merge_X5_canMerge
set_option maxRecDepth 20000 in
theorem ggX5_merge_X5_handOver : GoodIn wsX5_merge wsX5_handOver := goodIn_r _ [39, 40, 41, 15, 42, 43, 44, 45, 46, 47, 48, 49, 58, 59, 60, 61, 62, 63, 64] (by decide +kernel) (by decide +kernel)
set_option maxRecDepth 20000 in
theorem gX5_merge_X5_handOver : GoodIn wsX5_merge (wsV RX5 236 RX5 yX5_handOver wsX5_handOver) := goodIn_app (goodIn_of _ (by decide +kernel)) ggX5_merge_X5_handOver
theorem dX5_merge_0 : decode cX5_merge 0 = .ok (.iconst 0, 1) := by decide +kernel
theorem dX5_merge_1 : decode cX5_merge 1 = .ok (.istore_n 1, 1) := by decide +kernel
theorem dX5_merge_2 : decode cX5_merge 2 = .ok (.iload_n 1, 1) := by decide +kernel
theorem dX5_merge_3 : decode cX5_merge 3 = .ok (.aload_n 0, 1) := by decide +kernel
theorem dX5_merge_4 : decode cX5_merge 4 = .ok (.getfield 59, 3) := by decide +kernel
theorem dX5_merge_7 : decode cX5_merge 7 = .ok (.if_icmp .ge 64, 3) := by decide +kernel
theorem dX5_merge_10 : decode cX5_merge 10 = .ok (.iload_n 1, 1) := by decide +kernel
theorem dX5_merge_11 : decode cX5_merge 11 = .ok (.iconst 1, 1) := by decide +kernel
theorem dX5_merge_12 : decode cX5_merge 12 = .ok (.iadd, 1) := by decide +kernel
theorem dX5_merge_13 : decode cX5_merge 13 = .ok (.istore_n 2, 1) := by decide +kernel
theorem dX5_merge_14 : decode cX5_merge 14 = .ok (.iload_n 2, 1) := by decide +kernel
theorem dX5_merge_15 : decode cX5_merge 15 = .ok (.aload_n 0, 1) := by decide +kernel
theorem dX5_merge_16 : decode cX5_merge 16 = .ok (.getfield 59, 3) := by decide +kernel
theorem dX5_merge_19 : decode cX5_merge 19 = .ok (.if_icmp .ge 46, 3) := by decide +kernel
theorem dX5_merge_22 : decode cX5_merge 22 = .ok (.aload_n 0, 1) := by decide +kernel
theorem dX5_merge_23 : decode cX5_merge 23 = .ok (.aload_n 0, 1) := by decide +kernel
theorem dX5_merge_24 : decode cX5_merge 24 = .ok (.getfield 34, 3) := by decide +kernel
theorem dX5_merge_27 : decode cX5_merge 27 = .ok (.iload_n 1, 1) := by decide +kernel
theorem dX5_merge_28 : decode cX5_merge 28 = .ok (.aaload, 1) := by decide +kernel
theorem dX5_merge_29 : decode cX5_merge 29 = .ok (.aload_n 0, 1) := by decide +kernel
theorem dX5_merge_30 : decode cX5_merge 30 = .ok (.getfield 34, 3) := by decide +kernel
theorem dX5_merge_33 : decode cX5_merge 33 = .ok (.iload_n 2, 1) := by decide +kernel
theorem dX5_merge_34 : decode cX5_merge 34 = .ok (.aaload, 1) := by decide +kernel
theorem dX5_merge_35 : decode cX5_merge 35 = .ok (.invokevirtual 232, 3) := by decide +kernel
theorem dX5_merge_38 : decode cX5_merge 38 = .ok (.ifCond .eq 21, 3) := by decide +kernel
theorem dX5_merge_41 : decode cX5_merge 41 = .ok (.aload_n 0, 1) := by decide +kernel
theorem dX5_merge_42 : decode cX5_merge 42 = .ok (.aload_n 0, 1) := by decide +kernel
theorem dX5_merge_43 : decode cX5_merge 43 = .ok (.getfield 34, 3) := by decide +kernel
theorem dX5_merge_46 : decode cX5_merge 46 = .ok (.iload_n 2, 1) := by decide +kernel
theorem dX5_merge_47 : decode cX5_merge 47 = .ok (.aaload, 1) := by decide +kernel
theorem dX5_merge_48 : decode cX5_merge 48 = .ok (.aload_n 0, 1) := by decide +kernel
theorem dX5_merge_49 : decode cX5_merge 49 = .ok (.getfield 34, 3) := by decide +kernel
theorem dX5_merge_52 : decode cX5_merge 52 = .ok (.iload_n 1, 1) := by decide +kernel
theorem dX5_merge_53 : decode cX5_merge 53 = .ok (.aaload, 1) := by decide +kernel
theorem dX5_merge_54 : decode cX5_merge 54 = .ok (.invokevirtual 236, 3) := by decide +kernel
theorem dX5_merge_57 : decode cX5_merge 57 = .ok (.iload_n 2, 1) := by decide +kernel
theorem dX5_merge_58 : decode cX5_merge 58 = .ok (.ireturn, 1) := by decide +kernel
theorem dX5_merge_59 : decode cX5_merge 59 = .ok (.iinc 2 1, 3) := by decide +kernel
theorem dX5_merge_62 : decode cX5_merge 62 = .ok (.goto (-48), 3) := by decide +kernel
theorem dX5_merge_65 : decode cX5_merge 65 = .ok (.iinc 1 1, 3) := by decide +kernel
theorem dX5_merge_68 : decode cX5_merge 68 = .ok (.goto (-66), 3) := by decide +kernel
theorem dX5_merge_71 : decode cX5_merge 71 = .ok (.new 76, 3) := by decide +kernel
theorem dX5_merge_74 : decode cX5_merge 74 = .ok (.dup, 1) := by decide +kernel
theorem dX5_merge_75 : decode cX5_merge 75 = .ok (.ldc 240, 2) := by decide +kernel
theorem dX5_merge_77 : decode cX5_merge 77 = .ok (.invokespecial 80, 3) := by decide +kernel
theorem dX5_merge_80 : decode cX5_merge 80 = .ok (.athrow, 1) := by decide +kernel
set_option maxRecDepth 20000 in
theorem ggX5_move_X1_wayAt : GoodIn wsX5_move wsX1_wayAt := goodIn_r _ [9, 10, 11, 12, 13, 14, 15, 8, 16, 17, 71, 72, 73, 74, 75, 76, 77] (by decide +kernel) (by decide +kernel)
set_option maxRecDepth 20000 in
theorem gX5_move_X1_wayAt : GoodIn wsX5_move (wsV RX5 242 RX1 yX1_wayAt wsX1_wayAt) := goodIn_app (goodIn_of _ (by decide +kernel)) ggX5_move_X1_wayAt
set_option maxRecDepth 20000 in
theorem ggX5_move_X5_lowerWavelength : GoodIn wsX5_move wsX5_lowerWavelength := goodIn_r _ [22, 23, 24, 25, 26, 27, 28, 29, 30, 31, 32, 33, 34, 21, 35, 3, 4, 36, 37, 38, 8, 39, 10, 11, 12, 13, 14, 15, 16, 17, 40, 41, 42, 43, 44, 45, 46, 47, 48, 49, 50, 51, 52, 53, 54, 55, 56, 57, 58, 59, 60, 61, 62, 78, 79, 80, 81, 82, 63, 64, 65, 66, 67, 68, 69, 70, 83, 84, 85, 86, 87, 88, 89, 90, 71, 72, 73, 74, 75, 76, 77] (by decide +kernel) (by decide +kernel)
set_option maxRecDepth 20000 in
theorem gX5_move_X5_lowerWavelength : GoodIn wsX5_move (wsV RX5 246 RX5 yX5_lowerWavelength wsX5_lowerWavelength) := goodIn_app (goodIn_of _ (by decide +kernel)) ggX5_move_X5_lowerWavelength
theorem dX5_move_0 : decode cX5_move 0 = .ok (.iconst 0, 1) := by decide +kernel
theorem dX5_move_1 : decode cX5_move 1 = .ok (.istore_n 1, 1) := by decide +kernel
theorem dX5_move_2 : decode cX5_move 2 = .ok (.iload_n 1, 1) := by decide +kernel
theorem dX5_move_3 : decode cX5_move 3 = .ok (.aload_n 0, 1) := by decide +kernel
theorem dX5_move_4 : decode cX5_move 4 = .ok (.getfield 59, 3) := by decide +kernel
theorem dX5_move_7 : decode cX5_move 7 = .ok (.if_icmp .ge 42, 3) := by decide +kernel
theorem dX5_move_10 : decode cX5_move 10 = .ok (.aload_n 0, 1) := by decide +kernel
theorem dX5_move_11 : decode cX5_move 11 = .ok (.getfield 34, 3) := by decide +kernel
theorem dX5_move_14 : decode cX5_move 14 = .ok (.iload_n 1, 1) := by decide +kernel
theorem dX5_move_15 : decode cX5_move 15 = .ok (.aaload, 1) := by decide +kernel
theorem dX5_move_16 : decode cX5_move 16 = .ok (.astore_n 2, 1) := by decide +kernel
theorem dX5_move_17 : decode cX5_move 17 = .ok (.aload_n 0, 1) := by decide +kernel
theorem dX5_move_18 : decode cX5_move 18 = .ok (.aload_n 2, 1) := by decide +kernel
theorem dX5_move_19 : decode cX5_move 19 = .ok (.iconst 0, 1) := by decide +kernel
theorem dX5_move_20 : decode cX5_move 20 = .ok (.invokevirtual 242, 3) := by decide +kernel
theorem dX5_move_23 : decode cX5_move 23 = .ok (.invokevirtual 246, 3) := by decide +kernel
theorem dX5_move_26 : decode cX5_move 26 = .ok (.ifCond .ne 15, 3) := by decide +kernel
theorem dX5_move_29 : decode cX5_move 29 = .ok (.aload_n 0, 1) := by decide +kernel
theorem dX5_move_30 : decode cX5_move 30 = .ok (.aload_n 2, 1) := by decide +kernel
theorem dX5_move_31 : decode cX5_move 31 = .ok (.iconst 1, 1) := by decide +kernel
theorem dX5_move_32 : decode cX5_move 32 = .ok (.invokevirtual 242, 3) := by decide +kernel
theorem dX5_move_35 : decode cX5_move 35 = .ok (.invokevirtual 246, 3) := by decide +kernel
theorem dX5_move_38 : decode cX5_move 38 = .ok (.ifCond .eq 5, 3) := by decide +kernel
theorem dX5_move_41 : decode cX5_move 41 = .ok (.iload_n 1, 1) := by decide +kernel
theorem dX5_move_42 : decode cX5_move 42 = .ok (.ireturn, 1) := by decide +kernel
theorem dX5_move_43 : decode cX5_move 43 = .ok (.iinc 1 1, 3) := by decide +kernel
theorem dX5_move_46 : decode cX5_move 46 = .ok (.goto (-44), 3) := by decide +kernel
theorem dX5_move_49 : decode cX5_move 49 = .ok (.new 76, 3) := by decide +kernel
theorem dX5_move_52 : decode cX5_move 52 = .ok (.dup, 1) := by decide +kernel
theorem dX5_move_53 : decode cX5_move 53 = .ok (.ldc 250, 2) := by decide +kernel
theorem dX5_move_55 : decode cX5_move 55 = .ok (.invokespecial 80, 3) := by decide +kernel
theorem dX5_move_58 : decode cX5_move 58 = .ok (.athrow, 1) := by decide +kernel
set_option maxRecDepth 20000 in
theorem ggX5_wavelengthsNeeded_X0_clear : GoodIn wsX5_wavelengthsNeeded wsX0_clear := goodIn_r _ [10, 11, 64, 65, 66] (by decide +kernel) (by decide +kernel)
set_option maxRecDepth 20000 in
theorem gX5_wavelengthsNeeded_X0_clear : GoodIn wsX5_wavelengthsNeeded (wsV RX5 252 RX0 yX0_clear wsX0_clear) := goodIn_app (goodIn_of _ (by decide +kernel)) ggX5_wavelengthsNeeded_X0_clear
set_option maxRecDepth 20000 in
theorem ggX5_wavelengthsNeeded_X1_isGone : GoodIn wsX5_wavelengthsNeeded wsX1_isGone := goodIn_r _ [16, 17, 52, 53, 54, 55, 56, 57, 58] (by decide +kernel) (by decide +kernel)
set_option maxRecDepth 20000 in
theorem gX5_wavelengthsNeeded_X1_isGone : GoodIn wsX5_wavelengthsNeeded (wsV RX5 184 RX1 yX1_isGone wsX1_isGone) := goodIn_app (goodIn_of _ (by decide +kernel)) ggX5_wavelengthsNeeded_X1_isGone
set_option maxRecDepth 20000 in
theorem ggX5_wavelengthsNeeded_X0_add : GoodIn wsX5_wavelengthsNeeded wsX0_add := goodIn_r _ [21, 11, 22, 64, 65, 66] (by decide +kernel) (by decide +kernel)
set_option maxRecDepth 20000 in
theorem gX5_wavelengthsNeeded_X0_add : GoodIn wsX5_wavelengthsNeeded (wsV RX5 258 RX0 yX0_add wsX0_add) := goodIn_app (goodIn_of _ (by decide +kernel)) ggX5_wavelengthsNeeded_X0_add
set_option maxRecDepth 20000 in
theorem ggX5_wavelengthsNeeded_X0_leastColours : GoodIn wsX5_wavelengthsNeeded wsX0_leastColours := goodIn_r _ [26, 11, 27, 28, 29, 9, 30, 22, 31, 32, 33, 34, 35, 36, 37, 38, 39, 40, 41, 42, 43, 64, 65, 66] (by decide +kernel) (by decide +kernel)
set_option maxRecDepth 20000 in
theorem gX5_wavelengthsNeeded_X0_leastColours : GoodIn wsX5_wavelengthsNeeded (wsV RX5 261 RX0 yX0_leastColours wsX0_leastColours) := goodIn_app (goodIn_of _ (by decide +kernel)) ggX5_wavelengthsNeeded_X0_leastColours
theorem dX5_wavelengthsNeeded_0 : decode cX5_wavelengthsNeeded 0 = .ok (.aload_n 0, 1) := by decide +kernel
theorem dX5_wavelengthsNeeded_1 : decode cX5_wavelengthsNeeded 1 = .ok (.getfield 28, 3) := by decide +kernel
theorem dX5_wavelengthsNeeded_4 : decode cX5_wavelengthsNeeded 4 = .ok (.invokevirtual 252, 3) := by decide +kernel
theorem dX5_wavelengthsNeeded_7 : decode cX5_wavelengthsNeeded 7 = .ok (.iconst 0, 1) := by decide +kernel
theorem dX5_wavelengthsNeeded_8 : decode cX5_wavelengthsNeeded 8 = .ok (.istore_n 1, 1) := by decide +kernel
theorem dX5_wavelengthsNeeded_9 : decode cX5_wavelengthsNeeded 9 = .ok (.iload_n 1, 1) := by decide +kernel
theorem dX5_wavelengthsNeeded_10 : decode cX5_wavelengthsNeeded 10 = .ok (.aload_n 0, 1) := by decide +kernel
theorem dX5_wavelengthsNeeded_11 : decode cX5_wavelengthsNeeded 11 = .ok (.getfield 59, 3) := by decide +kernel
theorem dX5_wavelengthsNeeded_14 : decode cX5_wavelengthsNeeded 14 = .ok (.if_icmp .ge 40, 3) := by decide +kernel
theorem dX5_wavelengthsNeeded_17 : decode cX5_wavelengthsNeeded 17 = .ok (.aload_n 0, 1) := by decide +kernel
theorem dX5_wavelengthsNeeded_18 : decode cX5_wavelengthsNeeded 18 = .ok (.getfield 34, 3) := by decide +kernel
theorem dX5_wavelengthsNeeded_21 : decode cX5_wavelengthsNeeded 21 = .ok (.iload_n 1, 1) := by decide +kernel
theorem dX5_wavelengthsNeeded_22 : decode cX5_wavelengthsNeeded 22 = .ok (.aaload, 1) := by decide +kernel
theorem dX5_wavelengthsNeeded_23 : decode cX5_wavelengthsNeeded 23 = .ok (.invokevirtual 184, 3) := by decide +kernel
theorem dX5_wavelengthsNeeded_26 : decode cX5_wavelengthsNeeded 26 = .ok (.ifCond .ne 22, 3) := by decide +kernel
theorem dX5_wavelengthsNeeded_29 : decode cX5_wavelengthsNeeded 29 = .ok (.aload_n 0, 1) := by decide +kernel
theorem dX5_wavelengthsNeeded_30 : decode cX5_wavelengthsNeeded 30 = .ok (.getfield 28, 3) := by decide +kernel
theorem dX5_wavelengthsNeeded_33 : decode cX5_wavelengthsNeeded 33 = .ok (.aload_n 0, 1) := by decide +kernel
theorem dX5_wavelengthsNeeded_34 : decode cX5_wavelengthsNeeded 34 = .ok (.getfield 34, 3) := by decide +kernel
theorem dX5_wavelengthsNeeded_37 : decode cX5_wavelengthsNeeded 37 = .ok (.iload_n 1, 1) := by decide +kernel
theorem dX5_wavelengthsNeeded_38 : decode cX5_wavelengthsNeeded 38 = .ok (.aaload, 1) := by decide +kernel
theorem dX5_wavelengthsNeeded_39 : decode cX5_wavelengthsNeeded 39 = .ok (.getfield 227, 3) := by decide +kernel
theorem dX5_wavelengthsNeeded_42 : decode cX5_wavelengthsNeeded 42 = .ok (.getfield 255, 3) := by decide +kernel
theorem dX5_wavelengthsNeeded_45 : decode cX5_wavelengthsNeeded 45 = .ok (.invokevirtual 258, 3) := by decide +kernel
theorem dX5_wavelengthsNeeded_48 : decode cX5_wavelengthsNeeded 48 = .ok (.iinc 1 1, 3) := by decide +kernel
theorem dX5_wavelengthsNeeded_51 : decode cX5_wavelengthsNeeded 51 = .ok (.goto (-42), 3) := by decide +kernel
theorem dX5_wavelengthsNeeded_54 : decode cX5_wavelengthsNeeded 54 = .ok (.aload_n 0, 1) := by decide +kernel
theorem dX5_wavelengthsNeeded_55 : decode cX5_wavelengthsNeeded 55 = .ok (.getfield 28, 3) := by decide +kernel
theorem dX5_wavelengthsNeeded_58 : decode cX5_wavelengthsNeeded 58 = .ok (.invokevirtual 261, 3) := by decide +kernel
theorem dX5_wavelengthsNeeded_61 : decode cX5_wavelengthsNeeded 61 = .ok (.ireturn, 1) := by decide +kernel
set_option maxRecDepth 20000 in
theorem ggX5_areTwoNodes_X2_hasNode : GoodIn wsX5_areTwoNodes wsX2_hasNode := goodIn_r _ [6, 7, 16, 17, 18, 19, 20, 21, 22, 23] (by decide +kernel) (by decide +kernel)
set_option maxRecDepth 20000 in
theorem gX5_areTwoNodes_X2_hasNode : GoodIn wsX5_areTwoNodes (wsV RX5 81 RX2 yX2_hasNode wsX2_hasNode) := goodIn_app (goodIn_of _ (by decide +kernel)) ggX5_areTwoNodes_X2_hasNode
theorem dX5_areTwoNodes_0 : decode cX5_areTwoNodes 0 = .ok (.aload_n 0, 1) := by decide +kernel
theorem dX5_areTwoNodes_1 : decode cX5_areTwoNodes 1 = .ok (.getfield 12, 3) := by decide +kernel
theorem dX5_areTwoNodes_4 : decode cX5_areTwoNodes 4 = .ok (.iload_n 1, 1) := by decide +kernel
theorem dX5_areTwoNodes_5 : decode cX5_areTwoNodes 5 = .ok (.invokevirtual 81, 3) := by decide +kernel
theorem dX5_areTwoNodes_8 : decode cX5_areTwoNodes 8 = .ok (.ifCond .eq 23, 3) := by decide +kernel
theorem dX5_areTwoNodes_11 : decode cX5_areTwoNodes 11 = .ok (.aload_n 0, 1) := by decide +kernel
theorem dX5_areTwoNodes_12 : decode cX5_areTwoNodes 12 = .ok (.getfield 12, 3) := by decide +kernel
theorem dX5_areTwoNodes_15 : decode cX5_areTwoNodes 15 = .ok (.iload_n 2, 1) := by decide +kernel
theorem dX5_areTwoNodes_16 : decode cX5_areTwoNodes 16 = .ok (.invokevirtual 81, 3) := by decide +kernel
theorem dX5_areTwoNodes_19 : decode cX5_areTwoNodes 19 = .ok (.ifCond .eq 12, 3) := by decide +kernel
theorem dX5_areTwoNodes_22 : decode cX5_areTwoNodes 22 = .ok (.iload_n 1, 1) := by decide +kernel
theorem dX5_areTwoNodes_23 : decode cX5_areTwoNodes 23 = .ok (.iload_n 2, 1) := by decide +kernel
theorem dX5_areTwoNodes_24 : decode cX5_areTwoNodes 24 = .ok (.if_icmp .eq 7, 3) := by decide +kernel
theorem dX5_areTwoNodes_27 : decode cX5_areTwoNodes 27 = .ok (.iconst 1, 1) := by decide +kernel
theorem dX5_areTwoNodes_28 : decode cX5_areTwoNodes 28 = .ok (.goto 4, 3) := by decide +kernel
theorem dX5_areTwoNodes_31 : decode cX5_areTwoNodes 31 = .ok (.iconst 0, 1) := by decide +kernel
theorem dX5_areTwoNodes_32 : decode cX5_areTwoNodes 32 = .ok (.ireturn, 1) := by decide +kernel
theorem dX5_isRule_0 : decode cX5_isRule 0 = .ok (.iload_n 0, 1) := by decide +kernel
theorem dX5_isRule_1 : decode cX5_isRule 1 = .ok (.ifCond .lt 12, 3) := by decide +kernel
theorem dX5_isRule_4 : decode cX5_isRule 4 = .ok (.iload_n 0, 1) := by decide +kernel
theorem dX5_isRule_5 : decode cX5_isRule 5 = .ok (.iconst 2, 1) := by decide +kernel
theorem dX5_isRule_6 : decode cX5_isRule 6 = .ok (.if_icmp .gt 7, 3) := by decide +kernel
theorem dX5_isRule_9 : decode cX5_isRule 9 = .ok (.iconst 1, 1) := by decide +kernel
theorem dX5_isRule_10 : decode cX5_isRule 10 = .ok (.goto 4, 3) := by decide +kernel
theorem dX5_isRule_13 : decode cX5_isRule 13 = .ok (.iconst 0, 1) := by decide +kernel
theorem dX5_isRule_14 : decode cX5_isRule 14 = .ok (.ireturn, 1) := by decide +kernel
set_option maxRecDepth 20000 in
theorem ggX5_requireFibre_X2_hasFibre : GoodIn wsX5_requireFibre wsX2_hasFibre := goodIn_r _ [8, 9, 18, 19, 20, 21, 22, 23, 24, 25] (by decide +kernel) (by decide +kernel)
set_option maxRecDepth 20000 in
theorem gX5_requireFibre_X2_hasFibre : GoodIn wsX5_requireFibre (wsV RX5 264 RX2 yX2_hasFibre wsX2_hasFibre) := goodIn_app (goodIn_of _ (by decide +kernel)) ggX5_requireFibre_X2_hasFibre
theorem dX5_requireFibre_0 : decode cX5_requireFibre 0 = .ok (.aload_n 0, 1) := by decide +kernel
theorem dX5_requireFibre_1 : decode cX5_requireFibre 1 = .ok (.getfield 12, 3) := by decide +kernel
theorem dX5_requireFibre_4 : decode cX5_requireFibre 4 = .ok (.iload_n 1, 1) := by decide +kernel
theorem dX5_requireFibre_5 : decode cX5_requireFibre 5 = .ok (.invokevirtual 264, 3) := by decide +kernel
theorem dX5_requireFibre_8 : decode cX5_requireFibre 8 = .ok (.ifCond .ne 14, 3) := by decide +kernel
theorem dX5_requireFibre_11 : decode cX5_requireFibre 11 = .ok (.new 198, 3) := by decide +kernel
theorem dX5_requireFibre_14 : decode cX5_requireFibre 14 = .ok (.dup, 1) := by decide +kernel
theorem dX5_requireFibre_15 : decode cX5_requireFibre 15 = .ok (.ldc_w 267, 3) := by decide +kernel
theorem dX5_requireFibre_18 : decode cX5_requireFibre 18 = .ok (.invokespecial 202, 3) := by decide +kernel
theorem dX5_requireFibre_21 : decode cX5_requireFibre 21 = .ok (.athrow, 1) := by decide +kernel
theorem dX5_requireFibre_22 : decode cX5_requireFibre 22 = .ok (.return_, 1) := by decide +kernel
theorem dX5_existingLight_0 : decode cX5_existingLight 0 = .ok (.iload_n 1, 1) := by decide +kernel
theorem dX5_existingLight_1 : decode cX5_existingLight 1 = .ok (.ifCond .lt 11, 3) := by decide +kernel
theorem dX5_existingLight_4 : decode cX5_existingLight 4 = .ok (.iload_n 1, 1) := by decide +kernel
theorem dX5_existingLight_5 : decode cX5_existingLight 5 = .ok (.aload_n 0, 1) := by decide +kernel
theorem dX5_existingLight_6 : decode cX5_existingLight 6 = .ok (.getfield 59, 3) := by decide +kernel
theorem dX5_existingLight_9 : decode cX5_existingLight 9 = .ok (.if_icmp .lt 14, 3) := by decide +kernel
theorem dX5_existingLight_12 : decode cX5_existingLight 12 = .ok (.new 198, 3) := by decide +kernel
theorem dX5_existingLight_15 : decode cX5_existingLight 15 = .ok (.dup, 1) := by decide +kernel
theorem dX5_existingLight_16 : decode cX5_existingLight 16 = .ok (.ldc_w 269, 3) := by decide +kernel
theorem dX5_existingLight_19 : decode cX5_existingLight 19 = .ok (.invokespecial 202, 3) := by decide +kernel
theorem dX5_existingLight_22 : decode cX5_existingLight 22 = .ok (.athrow, 1) := by decide +kernel
theorem dX5_existingLight_23 : decode cX5_existingLight 23 = .ok (.aload_n 0, 1) := by decide +kernel
theorem dX5_existingLight_24 : decode cX5_existingLight 24 = .ok (.getfield 34, 3) := by decide +kernel
theorem dX5_existingLight_27 : decode cX5_existingLight 27 = .ok (.iload_n 1, 1) := by decide +kernel
theorem dX5_existingLight_28 : decode cX5_existingLight 28 = .ok (.aaload, 1) := by decide +kernel
theorem dX5_existingLight_29 : decode cX5_existingLight 29 = .ok (.areturn, 1) := by decide +kernel
set_option maxRecDepth 20000 in
theorem ggX5_wayOf_X5_existingLight : GoodIn wsX5_wayOf wsX5_existingLight := goodIn_ca (goodIn_r _ [7, 1, 2, 8, 9, 23, 24, 25, 26, 27, 28, 29, 30] (by decide +kernel) (by decide +kernel)) (goodIn_sub (fun _ h => List.mem_cons_of_mem _ (List.mem_append_right _ h)) (by decide +kernel))
set_option maxRecDepth 20000 in
theorem gX5_wayOf_X5_existingLight : GoodIn wsX5_wayOf (wsV RX5 181 RX5 yX5_existingLight wsX5_existingLight) := goodIn_app (goodIn_of _ (by decide +kernel)) ggX5_wayOf_X5_existingLight
set_option maxRecDepth 20000 in
theorem ggX5_wayOf_X1_wayAt : GoodIn wsX5_wayOf wsX1_wayAt := goodIn_r _ [14, 15, 16, 17, 18, 19, 20, 13, 21, 22, 31, 32, 33, 34, 35, 36, 37] (by decide +kernel) (by decide +kernel)
set_option maxRecDepth 20000 in
theorem gX5_wayOf_X1_wayAt : GoodIn wsX5_wayOf (wsV RX5 242 RX1 yX1_wayAt wsX1_wayAt) := goodIn_app (goodIn_of _ (by decide +kernel)) ggX5_wayOf_X1_wayAt
theorem dX5_wayOf_0 : decode cX5_wayOf 0 = .ok (.aload_n 0, 1) := by decide +kernel
theorem dX5_wayOf_1 : decode cX5_wayOf 1 = .ok (.iload_n 1, 1) := by decide +kernel
theorem dX5_wayOf_2 : decode cX5_wayOf 2 = .ok (.invokevirtual 181, 3) := by decide +kernel
theorem dX5_wayOf_5 : decode cX5_wayOf 5 = .ok (.iload_n 2, 1) := by decide +kernel
theorem dX5_wayOf_6 : decode cX5_wayOf 6 = .ok (.invokevirtual 242, 3) := by decide +kernel
theorem dX5_wayOf_9 : decode cX5_wayOf 9 = .ok (.astore_n 3, 1) := by decide +kernel
theorem dX5_wayOf_10 : decode cX5_wayOf 10 = .ok (.aload_n 3, 1) := by decide +kernel
theorem dX5_wayOf_11 : decode cX5_wayOf 11 = .ok (.ifnonnull 14, 3) := by decide +kernel
theorem dX5_wayOf_14 : decode cX5_wayOf 14 = .ok (.new 198, 3) := by decide +kernel
theorem dX5_wayOf_17 : decode cX5_wayOf 17 = .ok (.dup, 1) := by decide +kernel
theorem dX5_wayOf_18 : decode cX5_wayOf 18 = .ok (.ldc_w 271, 3) := by decide +kernel
theorem dX5_wayOf_21 : decode cX5_wayOf 21 = .ok (.invokespecial 202, 3) := by decide +kernel
theorem dX5_wayOf_24 : decode cX5_wayOf 24 = .ok (.athrow, 1) := by decide +kernel
theorem dX5_wayOf_25 : decode cX5_wayOf 25 = .ok (.aload_n 3, 1) := by decide +kernel
theorem dX5_wayOf_26 : decode cX5_wayOf 26 = .ok (.areturn, 1) := by decide +kernel
theorem dX5_carrierOf_0 : decode cX5_carrierOf 0 = .ok (.iload_n 1, 1) := by decide +kernel
theorem dX5_carrierOf_1 : decode cX5_carrierOf 1 = .ok (.ifCond .lt 11, 3) := by decide +kernel
theorem dX5_carrierOf_4 : decode cX5_carrierOf 4 = .ok (.iload_n 1, 1) := by decide +kernel
theorem dX5_carrierOf_5 : decode cX5_carrierOf 5 = .ok (.aload_n 0, 1) := by decide +kernel
theorem dX5_carrierOf_6 : decode cX5_carrierOf 6 = .ok (.getfield 63, 3) := by decide +kernel
theorem dX5_carrierOf_9 : decode cX5_carrierOf 9 = .ok (.if_icmp .lt 14, 3) := by decide +kernel
theorem dX5_carrierOf_12 : decode cX5_carrierOf 12 = .ok (.new 198, 3) := by decide +kernel
theorem dX5_carrierOf_15 : decode cX5_carrierOf 15 = .ok (.dup, 1) := by decide +kernel
theorem dX5_carrierOf_16 : decode cX5_carrierOf 16 = .ok (.ldc_w 273, 3) := by decide +kernel
theorem dX5_carrierOf_19 : decode cX5_carrierOf 19 = .ok (.invokespecial 202, 3) := by decide +kernel
theorem dX5_carrierOf_22 : decode cX5_carrierOf 22 = .ok (.athrow, 1) := by decide +kernel
theorem dX5_carrierOf_23 : decode cX5_carrierOf 23 = .ok (.aload_n 0, 1) := by decide +kernel
theorem dX5_carrierOf_24 : decode cX5_carrierOf 24 = .ok (.getfield 41, 3) := by decide +kernel
theorem dX5_carrierOf_27 : decode cX5_carrierOf 27 = .ok (.iload_n 1, 1) := by decide +kernel
theorem dX5_carrierOf_28 : decode cX5_carrierOf 28 = .ok (.aaload, 1) := by decide +kernel
theorem dX5_carrierOf_29 : decode cX5_carrierOf 29 = .ok (.astore_n 2, 1) := by decide +kernel
theorem dX5_carrierOf_30 : decode cX5_carrierOf 30 = .ok (.aload_n 2, 1) := by decide +kernel
theorem dX5_carrierOf_31 : decode cX5_carrierOf 31 = .ok (.ifnonnull 14, 3) := by decide +kernel
theorem dX5_carrierOf_34 : decode cX5_carrierOf 34 = .ok (.new 76, 3) := by decide +kernel
theorem dX5_carrierOf_37 : decode cX5_carrierOf 37 = .ok (.dup, 1) := by decide +kernel
theorem dX5_carrierOf_38 : decode cX5_carrierOf 38 = .ok (.ldc_w 275, 3) := by decide +kernel
theorem dX5_carrierOf_41 : decode cX5_carrierOf 41 = .ok (.invokespecial 80, 3) := by decide +kernel
theorem dX5_carrierOf_44 : decode cX5_carrierOf 44 = .ok (.athrow, 1) := by decide +kernel
theorem dX5_carrierOf_45 : decode cX5_carrierOf 45 = .ok (.aload_n 2, 1) := by decide +kernel
theorem dX5_carrierOf_46 : decode cX5_carrierOf 46 = .ok (.areturn, 1) := by decide +kernel
set_option maxRecDepth 20000 in
theorem ggX5_lightsUp_X1_isUp : GoodIn wsX5_lightsUp wsX1_isUp := goodIn_r _ [9, 10, 11, 12, 13, 14, 15, 16, 8, 17, 18, 35, 36, 37, 38, 39, 40, 41, 42, 43, 44, 45, 46] (by decide +kernel) (by decide +kernel)
set_option maxRecDepth 20000 in
theorem gX5_lightsUp_X1_isUp : GoodIn wsX5_lightsUp (wsV RX5 188 RX1 yX1_isUp wsX1_isUp) := goodIn_app (goodIn_of _ (by decide +kernel)) ggX5_lightsUp_X1_isUp
theorem dX5_lightsUp_0 : decode cX5_lightsUp 0 = .ok (.iconst 0, 1) := by decide +kernel
theorem dX5_lightsUp_1 : decode cX5_lightsUp 1 = .ok (.istore_n 1, 1) := by decide +kernel
theorem dX5_lightsUp_2 : decode cX5_lightsUp 2 = .ok (.iconst 0, 1) := by decide +kernel
theorem dX5_lightsUp_3 : decode cX5_lightsUp 3 = .ok (.istore_n 2, 1) := by decide +kernel
theorem dX5_lightsUp_4 : decode cX5_lightsUp 4 = .ok (.iload_n 2, 1) := by decide +kernel
theorem dX5_lightsUp_5 : decode cX5_lightsUp 5 = .ok (.aload_n 0, 1) := by decide +kernel
theorem dX5_lightsUp_6 : decode cX5_lightsUp 6 = .ok (.getfield 59, 3) := by decide +kernel
theorem dX5_lightsUp_9 : decode cX5_lightsUp 9 = .ok (.if_icmp .ge 31, 3) := by decide +kernel
theorem dX5_lightsUp_12 : decode cX5_lightsUp 12 = .ok (.aload_n 0, 1) := by decide +kernel
theorem dX5_lightsUp_13 : decode cX5_lightsUp 13 = .ok (.getfield 34, 3) := by decide +kernel
theorem dX5_lightsUp_16 : decode cX5_lightsUp 16 = .ok (.iload_n 2, 1) := by decide +kernel
theorem dX5_lightsUp_17 : decode cX5_lightsUp 17 = .ok (.aaload, 1) := by decide +kernel
theorem dX5_lightsUp_18 : decode cX5_lightsUp 18 = .ok (.aload_n 0, 1) := by decide +kernel
theorem dX5_lightsUp_19 : decode cX5_lightsUp 19 = .ok (.getfield 12, 3) := by decide +kernel
theorem dX5_lightsUp_22 : decode cX5_lightsUp 22 = .ok (.getfield 102, 3) := by decide +kernel
theorem dX5_lightsUp_25 : decode cX5_lightsUp 25 = .ok (.invokevirtual 188, 3) := by decide +kernel
theorem dX5_lightsUp_28 : decode cX5_lightsUp 28 = .ok (.ifCond .eq 6, 3) := by decide +kernel
theorem dX5_lightsUp_31 : decode cX5_lightsUp 31 = .ok (.iinc 1 1, 3) := by decide +kernel
theorem dX5_lightsUp_34 : decode cX5_lightsUp 34 = .ok (.iinc 2 1, 3) := by decide +kernel
theorem dX5_lightsUp_37 : decode cX5_lightsUp 37 = .ok (.goto (-33), 3) := by decide +kernel
theorem dX5_lightsUp_40 : decode cX5_lightsUp 40 = .ok (.iload_n 1, 1) := by decide +kernel
theorem dX5_lightsUp_41 : decode cX5_lightsUp 41 = .ok (.ireturn, 1) := by decide +kernel
set_option maxRecDepth 20000 in
theorem ggX5_livingLights_X1_isGone : GoodIn wsX5_livingLights wsX1_isGone := goodIn_r _ [7, 8, 17, 18, 19, 20, 21, 22, 23] (by decide +kernel) (by decide +kernel)
set_option maxRecDepth 20000 in
theorem gX5_livingLights_X1_isGone : GoodIn wsX5_livingLights (wsV RX5 184 RX1 yX1_isGone wsX1_isGone) := goodIn_app (goodIn_of _ (by decide +kernel)) ggX5_livingLights_X1_isGone
theorem dX5_livingLights_0 : decode cX5_livingLights 0 = .ok (.iconst 0, 1) := by decide +kernel
theorem dX5_livingLights_1 : decode cX5_livingLights 1 = .ok (.istore_n 1, 1) := by decide +kernel
theorem dX5_livingLights_2 : decode cX5_livingLights 2 = .ok (.iconst 0, 1) := by decide +kernel
theorem dX5_livingLights_3 : decode cX5_livingLights 3 = .ok (.istore_n 2, 1) := by decide +kernel
theorem dX5_livingLights_4 : decode cX5_livingLights 4 = .ok (.iload_n 2, 1) := by decide +kernel
theorem dX5_livingLights_5 : decode cX5_livingLights 5 = .ok (.aload_n 0, 1) := by decide +kernel
theorem dX5_livingLights_6 : decode cX5_livingLights 6 = .ok (.getfield 59, 3) := by decide +kernel
theorem dX5_livingLights_9 : decode cX5_livingLights 9 = .ok (.if_icmp .ge 24, 3) := by decide +kernel
theorem dX5_livingLights_12 : decode cX5_livingLights 12 = .ok (.aload_n 0, 1) := by decide +kernel
theorem dX5_livingLights_13 : decode cX5_livingLights 13 = .ok (.getfield 34, 3) := by decide +kernel
theorem dX5_livingLights_16 : decode cX5_livingLights 16 = .ok (.iload_n 2, 1) := by decide +kernel
theorem dX5_livingLights_17 : decode cX5_livingLights 17 = .ok (.aaload, 1) := by decide +kernel
theorem dX5_livingLights_18 : decode cX5_livingLights 18 = .ok (.invokevirtual 184, 3) := by decide +kernel
theorem dX5_livingLights_21 : decode cX5_livingLights 21 = .ok (.ifCond .ne 6, 3) := by decide +kernel
theorem dX5_livingLights_24 : decode cX5_livingLights 24 = .ok (.iinc 1 1, 3) := by decide +kernel
theorem dX5_livingLights_27 : decode cX5_livingLights 27 = .ok (.iinc 2 1, 3) := by decide +kernel
theorem dX5_livingLights_30 : decode cX5_livingLights 30 = .ok (.goto (-26), 3) := by decide +kernel
theorem dX5_livingLights_33 : decode cX5_livingLights 33 = .ok (.iload_n 1, 1) := by decide +kernel
theorem dX5_livingLights_34 : decode cX5_livingLights 34 = .ok (.ireturn, 1) := by decide +kernel
set_option maxRecDepth 20000 in
theorem ggX5_wavelengthsUsed_X1_wavelengthsOn : GoodIn wsX5_wavelengthsUsed wsX1_wavelengthsOn := goodIn_r _ [7, 8, 9, 10, 11, 12, 13, 6, 14, 15, 16, 17, 18, 19, 20, 21, 22, 23, 24, 25, 26, 27, 28, 29, 30, 31, 40, 41, 42, 43, 44, 45, 46, 47, 48, 49, 50, 51] (by decide +kernel) (by decide +kernel)
set_option maxRecDepth 20000 in
theorem gX5_wavelengthsUsed_X1_wavelengthsOn : GoodIn wsX5_wavelengthsUsed (wsV RX5 112 RX1 yX1_wavelengthsOn wsX1_wavelengthsOn) := goodIn_app (goodIn_of _ (by decide +kernel)) ggX5_wavelengthsUsed_X1_wavelengthsOn
theorem dX5_wavelengthsUsed_0 : decode cX5_wavelengthsUsed 0 = .ok (.iconst 0, 1) := by decide +kernel
theorem dX5_wavelengthsUsed_1 : decode cX5_wavelengthsUsed 1 = .ok (.istore_n 3, 1) := by decide +kernel
theorem dX5_wavelengthsUsed_2 : decode cX5_wavelengthsUsed 2 = .ok (.iconst 0, 1) := by decide +kernel
theorem dX5_wavelengthsUsed_3 : decode cX5_wavelengthsUsed 3 = .ok (.istore 4, 2) := by decide +kernel
theorem dX5_wavelengthsUsed_5 : decode cX5_wavelengthsUsed 5 = .ok (.iload 4, 2) := by decide +kernel
theorem dX5_wavelengthsUsed_7 : decode cX5_wavelengthsUsed 7 = .ok (.aload_n 0, 1) := by decide +kernel
theorem dX5_wavelengthsUsed_8 : decode cX5_wavelengthsUsed 8 = .ok (.getfield 59, 3) := by decide +kernel
theorem dX5_wavelengthsUsed_11 : decode cX5_wavelengthsUsed 11 = .ok (.if_icmp .ge 34, 3) := by decide +kernel
theorem dX5_wavelengthsUsed_14 : decode cX5_wavelengthsUsed 14 = .ok (.aload_n 0, 1) := by decide +kernel
theorem dX5_wavelengthsUsed_15 : decode cX5_wavelengthsUsed 15 = .ok (.getfield 34, 3) := by decide +kernel
theorem dX5_wavelengthsUsed_18 : decode cX5_wavelengthsUsed 18 = .ok (.iload 4, 2) := by decide +kernel
theorem dX5_wavelengthsUsed_20 : decode cX5_wavelengthsUsed 20 = .ok (.aaload, 1) := by decide +kernel
theorem dX5_wavelengthsUsed_21 : decode cX5_wavelengthsUsed 21 = .ok (.aload_n 2, 1) := by decide +kernel
theorem dX5_wavelengthsUsed_22 : decode cX5_wavelengthsUsed 22 = .ok (.if_acmp .eq 17, 3) := by decide +kernel
theorem dX5_wavelengthsUsed_25 : decode cX5_wavelengthsUsed 25 = .ok (.iload_n 3, 1) := by decide +kernel
theorem dX5_wavelengthsUsed_26 : decode cX5_wavelengthsUsed 26 = .ok (.aload_n 0, 1) := by decide +kernel
theorem dX5_wavelengthsUsed_27 : decode cX5_wavelengthsUsed 27 = .ok (.getfield 34, 3) := by decide +kernel
theorem dX5_wavelengthsUsed_30 : decode cX5_wavelengthsUsed 30 = .ok (.iload 4, 2) := by decide +kernel
theorem dX5_wavelengthsUsed_32 : decode cX5_wavelengthsUsed 32 = .ok (.aaload, 1) := by decide +kernel
theorem dX5_wavelengthsUsed_33 : decode cX5_wavelengthsUsed 33 = .ok (.iload_n 1, 1) := by decide +kernel
theorem dX5_wavelengthsUsed_34 : decode cX5_wavelengthsUsed 34 = .ok (.invokevirtual 112, 3) := by decide +kernel
theorem dX5_wavelengthsUsed_37 : decode cX5_wavelengthsUsed 37 = .ok (.ior, 1) := by decide +kernel
theorem dX5_wavelengthsUsed_38 : decode cX5_wavelengthsUsed 38 = .ok (.istore_n 3, 1) := by decide +kernel
theorem dX5_wavelengthsUsed_39 : decode cX5_wavelengthsUsed 39 = .ok (.iinc 4 1, 3) := by decide +kernel
theorem dX5_wavelengthsUsed_42 : decode cX5_wavelengthsUsed 42 = .ok (.goto (-37), 3) := by decide +kernel
theorem dX5_wavelengthsUsed_45 : decode cX5_wavelengthsUsed 45 = .ok (.iload_n 3, 1) := by decide +kernel
theorem dX5_wavelengthsUsed_46 : decode cX5_wavelengthsUsed 46 = .ok (.ireturn, 1) := by decide +kernel
set_option maxRecDepth 20000 in
theorem ggX5_lightWithRoom_X1_isUp : GoodIn wsX5_lightWithRoom wsX1_isUp := goodIn_r _ [11, 12, 13, 14, 15, 16, 17, 18, 10, 19, 20, 43, 44, 45, 46, 47, 48, 49, 50, 51, 52, 53, 54] (by decide +kernel) (by decide +kernel)
set_option maxRecDepth 20000 in
theorem gX5_lightWithRoom_X1_isUp : GoodIn wsX5_lightWithRoom (wsV RX5 188 RX1 yX1_isUp wsX1_isUp) := goodIn_app (goodIn_of _ (by decide +kernel)) ggX5_lightWithRoom_X1_isUp
set_option maxRecDepth 20000 in
theorem ggX5_lightWithRoom_X1_joins : GoodIn wsX5_lightWithRoom wsX1_joins := goodIn_r _ [24, 25, 26, 43, 44, 45, 46, 47, 48, 49] (by decide +kernel) (by decide +kernel)
set_option maxRecDepth 20000 in
theorem gX5_lightWithRoom_X1_joins : GoodIn wsX5_lightWithRoom (wsV RX5 277 RX1 yX1_joins wsX1_joins) := goodIn_app (goodIn_of _ (by decide +kernel)) ggX5_lightWithRoom_X1_joins
theorem dX5_lightWithRoom_0 : decode cX5_lightWithRoom 0 = .ok (.iconst 0, 1) := by decide +kernel
theorem dX5_lightWithRoom_1 : decode cX5_lightWithRoom 1 = .ok (.istore 5, 2) := by decide +kernel
theorem dX5_lightWithRoom_3 : decode cX5_lightWithRoom 3 = .ok (.iload 5, 2) := by decide +kernel
theorem dX5_lightWithRoom_5 : decode cX5_lightWithRoom 5 = .ok (.aload_n 0, 1) := by decide +kernel
theorem dX5_lightWithRoom_6 : decode cX5_lightWithRoom 6 = .ok (.getfield 59, 3) := by decide +kernel
theorem dX5_lightWithRoom_9 : decode cX5_lightWithRoom 9 = .ok (.if_icmp .ge 68, 3) := by decide +kernel
theorem dX5_lightWithRoom_12 : decode cX5_lightWithRoom 12 = .ok (.aload_n 0, 1) := by decide +kernel
theorem dX5_lightWithRoom_13 : decode cX5_lightWithRoom 13 = .ok (.getfield 34, 3) := by decide +kernel
theorem dX5_lightWithRoom_16 : decode cX5_lightWithRoom 16 = .ok (.iload 5, 2) := by decide +kernel
theorem dX5_lightWithRoom_18 : decode cX5_lightWithRoom 18 = .ok (.aaload, 1) := by decide +kernel
theorem dX5_lightWithRoom_19 : decode cX5_lightWithRoom 19 = .ok (.astore 6, 2) := by decide +kernel
theorem dX5_lightWithRoom_21 : decode cX5_lightWithRoom 21 = .ok (.aload 6, 2) := by decide +kernel
theorem dX5_lightWithRoom_23 : decode cX5_lightWithRoom 23 = .ok (.aload_n 0, 1) := by decide +kernel
theorem dX5_lightWithRoom_24 : decode cX5_lightWithRoom 24 = .ok (.getfield 12, 3) := by decide +kernel
theorem dX5_lightWithRoom_27 : decode cX5_lightWithRoom 27 = .ok (.getfield 102, 3) := by decide +kernel
theorem dX5_lightWithRoom_30 : decode cX5_lightWithRoom 30 = .ok (.invokevirtual 188, 3) := by decide +kernel
theorem dX5_lightWithRoom_33 : decode cX5_lightWithRoom 33 = .ok (.ifCond .eq 38, 3) := by decide +kernel
theorem dX5_lightWithRoom_36 : decode cX5_lightWithRoom 36 = .ok (.aload 6, 2) := by decide +kernel
theorem dX5_lightWithRoom_38 : decode cX5_lightWithRoom 38 = .ok (.iload_n 1, 1) := by decide +kernel
theorem dX5_lightWithRoom_39 : decode cX5_lightWithRoom 39 = .ok (.iload_n 2, 1) := by decide +kernel
theorem dX5_lightWithRoom_40 : decode cX5_lightWithRoom 40 = .ok (.invokevirtual 277, 3) := by decide +kernel
theorem dX5_lightWithRoom_43 : decode cX5_lightWithRoom 43 = .ok (.ifCond .eq 28, 3) := by decide +kernel
theorem dX5_lightWithRoom_46 : decode cX5_lightWithRoom 46 = .ok (.aload 6, 2) := by decide +kernel
theorem dX5_lightWithRoom_48 : decode cX5_lightWithRoom 48 = .ok (.getfield 206, 3) := by decide +kernel
theorem dX5_lightWithRoom_51 : decode cX5_lightWithRoom 51 = .ok (.iload 4, 2) := by decide +kernel
theorem dX5_lightWithRoom_53 : decode cX5_lightWithRoom 53 = .ok (.if_icmp .ne 18, 3) := by decide +kernel
theorem dX5_lightWithRoom_56 : decode cX5_lightWithRoom 56 = .ok (.aload 6, 2) := by decide +kernel
theorem dX5_lightWithRoom_58 : decode cX5_lightWithRoom 58 = .ok (.getfield 155, 3) := by decide +kernel
theorem dX5_lightWithRoom_61 : decode cX5_lightWithRoom 61 = .ok (.iload_n 3, 1) := by decide +kernel
theorem dX5_lightWithRoom_62 : decode cX5_lightWithRoom 62 = .ok (.iadd, 1) := by decide +kernel
theorem dX5_lightWithRoom_63 : decode cX5_lightWithRoom 63 = .ok (.bipush 10, 2) := by decide +kernel
theorem dX5_lightWithRoom_65 : decode cX5_lightWithRoom 65 = .ok (.if_icmp .gt 6, 3) := by decide +kernel
theorem dX5_lightWithRoom_68 : decode cX5_lightWithRoom 68 = .ok (.aload 6, 2) := by decide +kernel
theorem dX5_lightWithRoom_70 : decode cX5_lightWithRoom 70 = .ok (.areturn, 1) := by decide +kernel
theorem dX5_lightWithRoom_71 : decode cX5_lightWithRoom 71 = .ok (.iinc 5 1, 3) := by decide +kernel
theorem dX5_lightWithRoom_74 : decode cX5_lightWithRoom 74 = .ok (.goto (-71), 3) := by decide +kernel
theorem dX5_lightWithRoom_77 : decode cX5_lightWithRoom 77 = .ok (.aconst_null, 1) := by decide +kernel
theorem dX5_lightWithRoom_78 : decode cX5_lightWithRoom 78 = .ok (.areturn, 1) := by decide +kernel
set_option maxRecDepth 20000 in
theorem ggX5_lightOnFoundWays_X5_livingLights : GoodIn wsX5_lightOnFoundWays wsX5_livingLights := goodIn_r _ [12, 5, 6, 13, 14, 15, 16, 17, 18, 38, 39, 40, 41, 42, 43, 44, 45, 59, 60, 61, 62, 63, 64, 65] (by decide +kernel) (by decide +kernel)
set_option maxRecDepth 20000 in
theorem gX5_lightOnFoundWays_X5_livingLights : GoodIn wsX5_lightOnFoundWays (wsV RX5 280 RX5 yX5_livingLights wsX5_livingLights) := goodIn_app (goodIn_of _ (by decide +kernel)) ggX5_lightOnFoundWays_X5_livingLights
set_option maxRecDepth 20000 in
theorem ggX5_lightOnFoundWays_X1_start : GoodIn wsX5_lightOnFoundWays wsX1_start := goodIn_r _ [22, 23, 24, 18, 25, 26, 27, 28, 29, 30, 31, 32, 33, 34, 35, 36, 37, 59, 60, 61, 62, 63, 64, 65, 66, 67, 68, 69, 70] (by decide +kernel) (by decide +kernel)
set_option maxRecDepth 20000 in
theorem gX5_lightOnFoundWays_X1_start : GoodIn wsX5_lightOnFoundWays (wsV RX5 285 RX1 yX1_start wsX1_start) := goodIn_app (goodIn_of _ (by decide +kernel)) ggX5_lightOnFoundWays_X1_start
theorem dX5_lightOnFoundWays_0 : decode cX5_lightOnFoundWays 0 = .ok (.aload_n 0, 1) := by decide +kernel
theorem dX5_lightOnFoundWays_1 : decode cX5_lightOnFoundWays 1 = .ok (.getfield 21, 3) := by decide +kernel
theorem dX5_lightOnFoundWays_4 : decode cX5_lightOnFoundWays 4 = .ok (.getfield 160, 3) := by decide +kernel
theorem dX5_lightOnFoundWays_7 : decode cX5_lightOnFoundWays 7 = .ok (.astore_n 3, 1) := by decide +kernel
theorem dX5_lightOnFoundWays_8 : decode cX5_lightOnFoundWays 8 = .ok (.aload_n 3, 1) := by decide +kernel
theorem dX5_lightOnFoundWays_9 : decode cX5_lightOnFoundWays 9 = .ok (.ifnonnull 13, 3) := by decide +kernel
theorem dX5_lightOnFoundWays_12 : decode cX5_lightOnFoundWays 12 = .ok (.new 76, 3) := by decide +kernel
theorem dX5_lightOnFoundWays_15 : decode cX5_lightOnFoundWays 15 = .ok (.dup, 1) := by decide +kernel
theorem dX5_lightOnFoundWays_16 : decode cX5_lightOnFoundWays 16 = .ok (.ldc 164, 2) := by decide +kernel
theorem dX5_lightOnFoundWays_18 : decode cX5_lightOnFoundWays 18 = .ok (.invokespecial 80, 3) := by decide +kernel
theorem dX5_lightOnFoundWays_21 : decode cX5_lightOnFoundWays 21 = .ok (.athrow, 1) := by decide +kernel
theorem dX5_lightOnFoundWays_22 : decode cX5_lightOnFoundWays 22 = .ok (.aload_n 0, 1) := by decide +kernel
theorem dX5_lightOnFoundWays_23 : decode cX5_lightOnFoundWays 23 = .ok (.invokevirtual 280, 3) := by decide +kernel
theorem dX5_lightOnFoundWays_26 : decode cX5_lightOnFoundWays 26 = .ok (.bipush 12, 2) := by decide +kernel
theorem dX5_lightOnFoundWays_28 : decode cX5_lightOnFoundWays 28 = .ok (.if_icmp .ge 12, 3) := by decide +kernel
theorem dX5_lightOnFoundWays_31 : decode cX5_lightOnFoundWays 31 = .ok (.aload_n 0, 1) := by decide +kernel
theorem dX5_lightOnFoundWays_32 : decode cX5_lightOnFoundWays 32 = .ok (.getfield 59, 3) := by decide +kernel
theorem dX5_lightOnFoundWays_35 : decode cX5_lightOnFoundWays 35 = .ok (.bipush 60, 2) := by decide +kernel
theorem dX5_lightOnFoundWays_37 : decode cX5_lightOnFoundWays 37 = .ok (.if_icmp .lt 14, 3) := by decide +kernel
theorem dX5_lightOnFoundWays_40 : decode cX5_lightOnFoundWays 40 = .ok (.new 76, 3) := by decide +kernel
theorem dX5_lightOnFoundWays_43 : decode cX5_lightOnFoundWays 43 = .ok (.dup, 1) := by decide +kernel
theorem dX5_lightOnFoundWays_44 : decode cX5_lightOnFoundWays 44 = .ok (.ldc_w 283, 3) := by decide +kernel
theorem dX5_lightOnFoundWays_47 : decode cX5_lightOnFoundWays 47 = .ok (.invokespecial 80, 3) := by decide +kernel
theorem dX5_lightOnFoundWays_50 : decode cX5_lightOnFoundWays 50 = .ok (.athrow, 1) := by decide +kernel
theorem dX5_lightOnFoundWays_51 : decode cX5_lightOnFoundWays 51 = .ok (.aload_n 0, 1) := by decide +kernel
theorem dX5_lightOnFoundWays_52 : decode cX5_lightOnFoundWays 52 = .ok (.getfield 34, 3) := by decide +kernel
theorem dX5_lightOnFoundWays_55 : decode cX5_lightOnFoundWays 55 = .ok (.aload_n 0, 1) := by decide +kernel
theorem dX5_lightOnFoundWays_56 : decode cX5_lightOnFoundWays 56 = .ok (.getfield 59, 3) := by decide +kernel
theorem dX5_lightOnFoundWays_59 : decode cX5_lightOnFoundWays 59 = .ok (.aaload, 1) := by decide +kernel
theorem dX5_lightOnFoundWays_60 : decode cX5_lightOnFoundWays 60 = .ok (.astore 4, 2) := by decide +kernel
theorem dX5_lightOnFoundWays_62 : decode cX5_lightOnFoundWays 62 = .ok (.aload_n 0, 1) := by decide +kernel
theorem dX5_lightOnFoundWays_63 : decode cX5_lightOnFoundWays 63 = .ok (.dup, 1) := by decide +kernel
theorem dX5_lightOnFoundWays_64 : decode cX5_lightOnFoundWays 64 = .ok (.getfield 59, 3) := by decide +kernel
theorem dX5_lightOnFoundWays_67 : decode cX5_lightOnFoundWays 67 = .ok (.iconst 1, 1) := by decide +kernel
theorem dX5_lightOnFoundWays_68 : decode cX5_lightOnFoundWays 68 = .ok (.iadd, 1) := by decide +kernel
theorem dX5_lightOnFoundWays_69 : decode cX5_lightOnFoundWays 69 = .ok (.putfield 59, 3) := by decide +kernel
theorem dX5_lightOnFoundWays_72 : decode cX5_lightOnFoundWays 72 = .ok (.aload 4, 2) := by decide +kernel
theorem dX5_lightOnFoundWays_74 : decode cX5_lightOnFoundWays 74 = .ok (.iload_n 1, 1) := by decide +kernel
theorem dX5_lightOnFoundWays_75 : decode cX5_lightOnFoundWays 75 = .ok (.iload_n 2, 1) := by decide +kernel
theorem dX5_lightOnFoundWays_76 : decode cX5_lightOnFoundWays 76 = .ok (.aload_n 3, 1) := by decide +kernel
theorem dX5_lightOnFoundWays_77 : decode cX5_lightOnFoundWays 77 = .ok (.aload_n 0, 1) := by decide +kernel
theorem dX5_lightOnFoundWays_78 : decode cX5_lightOnFoundWays 78 = .ok (.getfield 21, 3) := by decide +kernel
theorem dX5_lightOnFoundWays_81 : decode cX5_lightOnFoundWays 81 = .ok (.getfield 166, 3) := by decide +kernel
theorem dX5_lightOnFoundWays_84 : decode cX5_lightOnFoundWays 84 = .ok (.invokevirtual 285, 3) := by decide +kernel
theorem dX5_lightOnFoundWays_87 : decode cX5_lightOnFoundWays 87 = .ok (.aload 4, 2) := by decide +kernel
theorem dX5_lightOnFoundWays_89 : decode cX5_lightOnFoundWays 89 = .ok (.areturn, 1) := by decide +kernel
set_option maxRecDepth 20000 in
theorem ggX5_findWays_X5_openChannels : GoodIn wsX5_findWays wsX5_openChannels := goodIn_r _ [6, 7, 8, 1, 9, 10, 11, 12, 13, 14, 15, 16, 17, 18, 19, 20, 21, 22, 23, 5, 24, 25, 26, 27, 28, 29, 30, 31, 32, 33, 34, 35, 36, 37, 38, 39, 40, 41, 42, 43, 44, 45, 46, 47, 48, 49, 50, 51, 52, 53, 54, 55, 148, 149, 150, 151, 152, 153, 154, 155, 156, 157, 158, 159, 160, 161, 162, 163, 164, 165, 166, 167, 168, 169, 170, 171, 172, 173, 174, 175, 176, 177, 178, 179, 180, 181, 182, 183, 184, 185, 186, 187, 188] (by decide +kernel) (by decide +kernel)
set_option maxRecDepth 20000 in
theorem gX5_findWays_X5_openChannels : GoodIn wsX5_findWays (wsV RX5 212 RX5 yX5_openChannels wsX5_openChannels) := goodIn_app (goodIn_of _ (by decide +kernel)) ggX5_findWays_X5_openChannels
set_option maxRecDepth 20000 in
theorem ggX5_findWays_X4_findFirst : GoodIn wsX5_findWays wsX4_findFirst := goodIn_r _ [60, 61, 62, 63, 64, 65, 59, 66, 67, 68, 69, 70, 71, 72, 73, 74, 75, 76, 77, 78, 79, 80, 81, 82, 83, 84, 85, 86, 87, 88, 89, 90, 91, 92, 93, 94, 95, 43, 96, 45, 97, 98, 50, 55, 99, 100, 101, 102, 103, 5, 104, 105, 106, 107, 108, 109, 110, 111, 13, 112, 113, 114, 115, 11, 12, 14, 15, 116, 117, 118, 119, 120, 121, 122, 123, 124, 125, 126, 127, 128, 129, 130, 164, 165, 166, 167, 168, 169, 170, 171, 172, 173, 174, 175, 176, 156, 157, 158, 159, 160, 161, 162, 163, 184, 185, 186, 187, 188] (by decide +kernel) (by decide +kernel)
set_option maxRecDepth 20000 in
theorem gX5_findWays_X4_findFirst : GoodIn wsX5_findWays (wsV RX5 222 RX4 yX4_findFirst wsX4_findFirst) := goodIn_app (goodIn_of _ (by decide +kernel)) ggX5_findWays_X4_findFirst
set_option maxRecDepth 20000 in
theorem ggX5_findWays_X4_findOnLowestWavelength : GoodIn wsX5_findWays wsX4_findOnLowestWavelength := goodIn_r _ [134, 125, 63, 64, 65, 59, 66, 67, 68, 69, 70, 71, 72, 73, 74, 61, 75, 76, 77, 78, 79, 80, 81, 82, 83, 84, 85, 86, 87, 88, 89, 90, 91, 92, 93, 94, 95, 43, 96, 45, 97, 98, 50, 55, 99, 100, 101, 102, 103, 5, 104, 105, 106, 107, 108, 109, 110, 111, 13, 112, 113, 114, 115, 11, 12, 14, 15, 116, 117, 118, 119, 120, 121, 122, 123, 124, 126, 127, 128, 129, 130, 164, 165, 166, 167, 168, 169, 170, 171, 172, 173, 174, 175, 176, 184, 185, 186, 187, 188, 156, 157, 158, 159, 160, 161, 162, 163] (by decide +kernel) (by decide +kernel)
set_option maxRecDepth 20000 in
theorem gX5_findWays_X4_findOnLowestWavelength : GoodIn wsX5_findWays (wsV RX5 289 RX4 yX4_findOnLowestWavelength wsX4_findOnLowestWavelength) := goodIn_app (goodIn_of _ (by decide +kernel)) ggX5_findWays_X4_findOnLowestWavelength
set_option maxRecDepth 20000 in
theorem ggX5_findWays_X4_findPair : GoodIn wsX5_findWays wsX4_findPair := goodIn_r _ [138, 125, 126, 70, 84, 139, 63, 64, 65, 59, 66, 67, 68, 69, 71, 72, 73, 74, 61, 75, 76, 77, 78, 79, 80, 81, 82, 83, 85, 86, 87, 88, 89, 90, 91, 92, 93, 94, 95, 43, 96, 45, 97, 98, 50, 55, 99, 100, 101, 102, 103, 5, 104, 105, 106, 107, 108, 109, 110, 111, 13, 112, 113, 114, 115, 11, 12, 14, 15, 116, 117, 118, 119, 120, 140, 141, 142, 143, 127, 128, 129, 130, 144, 145, 146, 147, 164, 165, 166, 167, 168, 169, 170, 171, 172, 173, 174, 175, 176, 184, 185, 186, 187, 188, 156, 157, 158, 159, 160, 161, 162, 163] (by decide +kernel) (by decide +kernel)
set_option maxRecDepth 20000 in
theorem gX5_findWays_X4_findPair : GoodIn wsX5_findWays (wsV RX5 292 RX4 yX4_findPair wsX4_findPair) := goodIn_app (goodIn_of _ (by decide +kernel)) ggX5_findWays_X4_findPair
theorem dX5_findWays_0 : decode cX5_findWays 0 = .ok (.aload_n 0, 1) := by decide +kernel
theorem dX5_findWays_1 : decode cX5_findWays 1 = .ok (.aconst_null, 1) := by decide +kernel
theorem dX5_findWays_2 : decode cX5_findWays 2 = .ok (.invokevirtual 212, 3) := by decide +kernel
theorem dX5_findWays_5 : decode cX5_findWays 5 = .ok (.iload_n 3, 1) := by decide +kernel
theorem dX5_findWays_6 : decode cX5_findWays 6 = .ok (.ifCond .ne 15, 3) := by decide +kernel
theorem dX5_findWays_9 : decode cX5_findWays 9 = .ok (.aload_n 0, 1) := by decide +kernel
theorem dX5_findWays_10 : decode cX5_findWays 10 = .ok (.getfield 21, 3) := by decide +kernel
theorem dX5_findWays_13 : decode cX5_findWays 13 = .ok (.iload_n 1, 1) := by decide +kernel
theorem dX5_findWays_14 : decode cX5_findWays 14 = .ok (.iload_n 2, 1) := by decide +kernel
theorem dX5_findWays_15 : decode cX5_findWays 15 = .ok (.invokevirtual 222, 3) := by decide +kernel
theorem dX5_findWays_18 : decode cX5_findWays 18 = .ok (.goto 29, 3) := by decide +kernel
theorem dX5_findWays_21 : decode cX5_findWays 21 = .ok (.iload_n 3, 1) := by decide +kernel
theorem dX5_findWays_22 : decode cX5_findWays 22 = .ok (.iconst 1, 1) := by decide +kernel
theorem dX5_findWays_23 : decode cX5_findWays 23 = .ok (.if_icmp .ne 15, 3) := by decide +kernel
theorem dX5_findWays_26 : decode cX5_findWays 26 = .ok (.aload_n 0, 1) := by decide +kernel
theorem dX5_findWays_27 : decode cX5_findWays 27 = .ok (.getfield 21, 3) := by decide +kernel
theorem dX5_findWays_30 : decode cX5_findWays 30 = .ok (.iload_n 1, 1) := by decide +kernel
theorem dX5_findWays_31 : decode cX5_findWays 31 = .ok (.iload_n 2, 1) := by decide +kernel
theorem dX5_findWays_32 : decode cX5_findWays 32 = .ok (.invokevirtual 289, 3) := by decide +kernel
theorem dX5_findWays_35 : decode cX5_findWays 35 = .ok (.goto 12, 3) := by decide +kernel
theorem dX5_findWays_38 : decode cX5_findWays 38 = .ok (.aload_n 0, 1) := by decide +kernel
theorem dX5_findWays_39 : decode cX5_findWays 39 = .ok (.getfield 21, 3) := by decide +kernel
theorem dX5_findWays_42 : decode cX5_findWays 42 = .ok (.iload_n 1, 1) := by decide +kernel
theorem dX5_findWays_43 : decode cX5_findWays 43 = .ok (.iload_n 2, 1) := by decide +kernel
theorem dX5_findWays_44 : decode cX5_findWays 44 = .ok (.invokevirtual 292, 3) := by decide +kernel
theorem dX5_findWays_47 : decode cX5_findWays 47 = .ok (.return_, 1) := by decide +kernel
set_option maxRecDepth 20000 in
theorem ggX5_openChannels_X2_hasFibre : GoodIn wsX5_openChannels wsX2_hasFibre := goodIn_r _ [9, 10, 60, 61, 62, 63, 64, 65, 66, 67] (by decide +kernel) (by decide +kernel)
set_option maxRecDepth 20000 in
theorem gX5_openChannels_X2_hasFibre : GoodIn wsX5_openChannels (wsV RX5 264 RX2 yX2_hasFibre wsX2_hasFibre) := goodIn_app (goodIn_of _ (by decide +kernel)) ggX5_openChannels_X2_hasFibre
set_option maxRecDepth 20000 in
theorem ggX5_openChannels_X2_isCut : GoodIn wsX5_openChannels wsX2_isCut := goodIn_r _ [14, 15, 60, 61, 62, 63, 64, 65, 66, 67] (by decide +kernel) (by decide +kernel)
set_option maxRecDepth 20000 in
theorem gX5_openChannels_X2_isCut : GoodIn wsX5_openChannels (wsV RX5 93 RX2 yX2_isCut wsX2_isCut) := goodIn_app (goodIn_of _ (by decide +kernel)) ggX5_openChannels_X2_isCut
set_option maxRecDepth 20000 in
theorem ggX5_openChannels_X5_wavelengthsUsed : GoodIn wsX5_openChannels wsX5_wavelengthsUsed := goodIn_r _ [20, 21, 22, 23, 24, 25, 26, 27, 28, 29, 30, 31, 32, 33, 34, 35, 36, 37, 38, 39, 40, 41, 42, 43, 44, 45, 46, 47, 48, 49, 50, 51, 52, 53, 54, 55, 56, 57, 58, 59, 81, 82, 83, 84, 85, 86, 87, 88, 89, 90, 91, 92] (by decide +kernel) (by decide +kernel)
set_option maxRecDepth 20000 in
theorem gX5_openChannels_X5_wavelengthsUsed : GoodIn wsX5_openChannels (wsV RX5 119 RX5 yX5_wavelengthsUsed wsX5_wavelengthsUsed) := goodIn_app (goodIn_of _ (by decide +kernel)) ggX5_openChannels_X5_wavelengthsUsed
theorem dX5_openChannels_0 : decode cX5_openChannels 0 = .ok (.iconst 0, 1) := by decide +kernel
theorem dX5_openChannels_1 : decode cX5_openChannels 1 = .ok (.istore_n 2, 1) := by decide +kernel
theorem dX5_openChannels_2 : decode cX5_openChannels 2 = .ok (.iload_n 2, 1) := by decide +kernel
theorem dX5_openChannels_3 : decode cX5_openChannels 3 = .ok (.bipush 14, 2) := by decide +kernel
theorem dX5_openChannels_5 : decode cX5_openChannels 5 = .ok (.if_icmp .ge 78, 3) := by decide +kernel
theorem dX5_openChannels_8 : decode cX5_openChannels 8 = .ok (.aload_n 0, 1) := by decide +kernel
theorem dX5_openChannels_9 : decode cX5_openChannels 9 = .ok (.getfield 12, 3) := by decide +kernel
theorem dX5_openChannels_12 : decode cX5_openChannels 12 = .ok (.iload_n 2, 1) := by decide +kernel
theorem dX5_openChannels_13 : decode cX5_openChannels 13 = .ok (.invokevirtual 264, 3) := by decide +kernel
theorem dX5_openChannels_16 : decode cX5_openChannels 16 = .ok (.ifCond .eq 14, 3) := by decide +kernel
theorem dX5_openChannels_19 : decode cX5_openChannels 19 = .ok (.aload_n 0, 1) := by decide +kernel
theorem dX5_openChannels_20 : decode cX5_openChannels 20 = .ok (.getfield 12, 3) := by decide +kernel
theorem dX5_openChannels_23 : decode cX5_openChannels 23 = .ok (.iload_n 2, 1) := by decide +kernel
theorem dX5_openChannels_24 : decode cX5_openChannels 24 = .ok (.invokevirtual 93, 3) := by decide +kernel
theorem dX5_openChannels_27 : decode cX5_openChannels 27 = .ok (.ifCond .eq 7, 3) := by decide +kernel
theorem dX5_openChannels_30 : decode cX5_openChannels 30 = .ok (.iconst 1, 1) := by decide +kernel
theorem dX5_openChannels_31 : decode cX5_openChannels 31 = .ok (.goto 4, 3) := by decide +kernel
theorem dX5_openChannels_34 : decode cX5_openChannels 34 = .ok (.iconst 0, 1) := by decide +kernel
theorem dX5_openChannels_35 : decode cX5_openChannels 35 = .ok (.istore_n 3, 1) := by decide +kernel
theorem dX5_openChannels_36 : decode cX5_openChannels 36 = .ok (.iconst 1, 1) := by decide +kernel
theorem dX5_openChannels_37 : decode cX5_openChannels 37 = .ok (.aload_n 0, 1) := by decide +kernel
theorem dX5_openChannels_38 : decode cX5_openChannels 38 = .ok (.getfield 12, 3) := by decide +kernel
theorem dX5_openChannels_41 : decode cX5_openChannels 41 = .ok (.getfield 107, 3) := by decide +kernel
theorem dX5_openChannels_44 : decode cX5_openChannels 44 = .ok (.ishl, 1) := by decide +kernel
theorem dX5_openChannels_45 : decode cX5_openChannels 45 = .ok (.iconst 1, 1) := by decide +kernel
theorem dX5_openChannels_46 : decode cX5_openChannels 46 = .ok (.isub, 1) := by decide +kernel
theorem dX5_openChannels_47 : decode cX5_openChannels 47 = .ok (.istore 4, 2) := by decide +kernel
theorem dX5_openChannels_49 : decode cX5_openChannels 49 = .ok (.aload_n 0, 1) := by decide +kernel
theorem dX5_openChannels_50 : decode cX5_openChannels 50 = .ok (.getfield 21, 3) := by decide +kernel
theorem dX5_openChannels_53 : decode cX5_openChannels 53 = .ok (.getfield 295, 3) := by decide +kernel
theorem dX5_openChannels_56 : decode cX5_openChannels 56 = .ok (.iload_n 2, 1) := by decide +kernel
theorem dX5_openChannels_57 : decode cX5_openChannels 57 = .ok (.iload_n 3, 1) := by decide +kernel
theorem dX5_openChannels_58 : decode cX5_openChannels 58 = .ok (.ifCond .eq 7, 3) := by decide +kernel
theorem dX5_openChannels_61 : decode cX5_openChannels 61 = .ok (.iconst 0, 1) := by decide +kernel
theorem dX5_openChannels_62 : decode cX5_openChannels 62 = .ok (.goto 14, 3) := by decide +kernel
theorem dX5_openChannels_65 : decode cX5_openChannels 65 = .ok (.iload 4, 2) := by decide +kernel
theorem dX5_openChannels_67 : decode cX5_openChannels 67 = .ok (.aload_n 0, 1) := by decide +kernel
theorem dX5_openChannels_68 : decode cX5_openChannels 68 = .ok (.iload_n 2, 1) := by decide +kernel
theorem dX5_openChannels_69 : decode cX5_openChannels 69 = .ok (.aload_n 1, 1) := by decide +kernel
theorem dX5_openChannels_70 : decode cX5_openChannels 70 = .ok (.invokevirtual 119, 3) := by decide +kernel
theorem dX5_openChannels_73 : decode cX5_openChannels 73 = .ok (.iconst (-1), 1) := by decide +kernel
theorem dX5_openChannels_74 : decode cX5_openChannels 74 = .ok (.ixor, 1) := by decide +kernel
theorem dX5_openChannels_75 : decode cX5_openChannels 75 = .ok (.iand, 1) := by decide +kernel
theorem dX5_openChannels_76 : decode cX5_openChannels 76 = .ok (.iastore, 1) := by decide +kernel
theorem dX5_openChannels_77 : decode cX5_openChannels 77 = .ok (.iinc 2 1, 3) := by decide +kernel
theorem dX5_openChannels_80 : decode cX5_openChannels 80 = .ok (.goto (-78), 3) := by decide +kernel
theorem dX5_openChannels_83 : decode cX5_openChannels 83 = .ok (.return_, 1) := by decide +kernel
set_option maxRecDepth 20000 in
theorem ggX5_canMerge_X1_isUp : GoodIn wsX5_canMerge wsX1_isUp := goodIn_r _ [11, 12, 13, 14, 15, 16, 17, 18, 10, 19, 20, 43, 44, 45, 46, 47, 48, 49, 50, 51, 52, 53, 54] (by decide +kernel) (by decide +kernel)
set_option maxRecDepth 20000 in
theorem gX5_canMerge_X1_isUp : GoodIn wsX5_canMerge (wsV RX5 188 RX1 yX1_isUp wsX1_isUp) := goodIn_app (goodIn_of _ (by decide +kernel)) ggX5_canMerge_X1_isUp
set_option maxRecDepth 20000 in
theorem ggX5_canMerge_X1_joins : GoodIn wsX5_canMerge wsX1_joins := goodIn_r _ [24, 25, 26, 43, 44, 45, 46, 47, 48, 49] (by decide +kernel) (by decide +kernel)
set_option maxRecDepth 20000 in
theorem gX5_canMerge_X1_joins : GoodIn wsX5_canMerge (wsV RX5 277 RX1 yX1_joins wsX1_joins) := goodIn_app (goodIn_of _ (by decide +kernel)) ggX5_canMerge_X1_joins
theorem dX5_canMerge_0 : decode cX5_canMerge 0 = .ok (.aload_n 1, 1) := by decide +kernel
theorem dX5_canMerge_1 : decode cX5_canMerge 1 = .ok (.aload_n 0, 1) := by decide +kernel
theorem dX5_canMerge_2 : decode cX5_canMerge 2 = .ok (.getfield 12, 3) := by decide +kernel
theorem dX5_canMerge_5 : decode cX5_canMerge 5 = .ok (.getfield 102, 3) := by decide +kernel
theorem dX5_canMerge_8 : decode cX5_canMerge 8 = .ok (.invokevirtual 188, 3) := by decide +kernel
theorem dX5_canMerge_11 : decode cX5_canMerge 11 = .ok (.ifCond .eq 64, 3) := by decide +kernel
theorem dX5_canMerge_14 : decode cX5_canMerge 14 = .ok (.aload_n 2, 1) := by decide +kernel
theorem dX5_canMerge_15 : decode cX5_canMerge 15 = .ok (.aload_n 0, 1) := by decide +kernel
theorem dX5_canMerge_16 : decode cX5_canMerge 16 = .ok (.getfield 12, 3) := by decide +kernel
theorem dX5_canMerge_19 : decode cX5_canMerge 19 = .ok (.getfield 102, 3) := by decide +kernel
theorem dX5_canMerge_22 : decode cX5_canMerge 22 = .ok (.invokevirtual 188, 3) := by decide +kernel
theorem dX5_canMerge_25 : decode cX5_canMerge 25 = .ok (.ifCond .eq 50, 3) := by decide +kernel
theorem dX5_canMerge_28 : decode cX5_canMerge 28 = .ok (.aload_n 1, 1) := by decide +kernel
theorem dX5_canMerge_29 : decode cX5_canMerge 29 = .ok (.getfield 206, 3) := by decide +kernel
theorem dX5_canMerge_32 : decode cX5_canMerge 32 = .ok (.ifCond .ne 43, 3) := by decide +kernel
theorem dX5_canMerge_35 : decode cX5_canMerge 35 = .ok (.aload_n 2, 1) := by decide +kernel
theorem dX5_canMerge_36 : decode cX5_canMerge 36 = .ok (.getfield 206, 3) := by decide +kernel
theorem dX5_canMerge_39 : decode cX5_canMerge 39 = .ok (.ifCond .ne 36, 3) := by decide +kernel
theorem dX5_canMerge_42 : decode cX5_canMerge 42 = .ok (.aload_n 1, 1) := by decide +kernel
theorem dX5_canMerge_43 : decode cX5_canMerge 43 = .ok (.aload_n 2, 1) := by decide +kernel
theorem dX5_canMerge_44 : decode cX5_canMerge 44 = .ok (.getfield 216, 3) := by decide +kernel
theorem dX5_canMerge_47 : decode cX5_canMerge 47 = .ok (.aload_n 2, 1) := by decide +kernel
theorem dX5_canMerge_48 : decode cX5_canMerge 48 = .ok (.getfield 219, 3) := by decide +kernel
theorem dX5_canMerge_51 : decode cX5_canMerge 51 = .ok (.invokevirtual 277, 3) := by decide +kernel
theorem dX5_canMerge_54 : decode cX5_canMerge 54 = .ok (.ifCond .eq 21, 3) := by decide +kernel
theorem dX5_canMerge_57 : decode cX5_canMerge 57 = .ok (.aload_n 1, 1) := by decide +kernel
theorem dX5_canMerge_58 : decode cX5_canMerge 58 = .ok (.getfield 155, 3) := by decide +kernel
theorem dX5_canMerge_61 : decode cX5_canMerge 61 = .ok (.aload_n 2, 1) := by decide +kernel
theorem dX5_canMerge_62 : decode cX5_canMerge 62 = .ok (.getfield 155, 3) := by decide +kernel
theorem dX5_canMerge_65 : decode cX5_canMerge 65 = .ok (.iadd, 1) := by decide +kernel
theorem dX5_canMerge_66 : decode cX5_canMerge 66 = .ok (.bipush 10, 2) := by decide +kernel
theorem dX5_canMerge_68 : decode cX5_canMerge 68 = .ok (.if_icmp .gt 7, 3) := by decide +kernel
theorem dX5_canMerge_71 : decode cX5_canMerge 71 = .ok (.iconst 1, 1) := by decide +kernel
theorem dX5_canMerge_72 : decode cX5_canMerge 72 = .ok (.goto 4, 3) := by decide +kernel
theorem dX5_canMerge_75 : decode cX5_canMerge 75 = .ok (.iconst 0, 1) := by decide +kernel
theorem dX5_canMerge_76 : decode cX5_canMerge 76 = .ok (.ireturn, 1) := by decide +kernel
theorem dX5_handOver_0 : decode cX5_handOver 0 = .ok (.iconst 0, 1) := by decide +kernel
theorem dX5_handOver_1 : decode cX5_handOver 1 = .ok (.istore_n 3, 1) := by decide +kernel
theorem dX5_handOver_2 : decode cX5_handOver 2 = .ok (.iload_n 3, 1) := by decide +kernel
theorem dX5_handOver_3 : decode cX5_handOver 3 = .ok (.aload_n 0, 1) := by decide +kernel
theorem dX5_handOver_4 : decode cX5_handOver 4 = .ok (.getfield 63, 3) := by decide +kernel
theorem dX5_handOver_7 : decode cX5_handOver 7 = .ok (.if_icmp .ge 26, 3) := by decide +kernel
theorem dX5_handOver_10 : decode cX5_handOver 10 = .ok (.aload_n 0, 1) := by decide +kernel
theorem dX5_handOver_11 : decode cX5_handOver 11 = .ok (.getfield 41, 3) := by decide +kernel
theorem dX5_handOver_14 : decode cX5_handOver 14 = .ok (.iload_n 3, 1) := by decide +kernel
theorem dX5_handOver_15 : decode cX5_handOver 15 = .ok (.aaload, 1) := by decide +kernel
theorem dX5_handOver_16 : decode cX5_handOver 16 = .ok (.aload_n 1, 1) := by decide +kernel
theorem dX5_handOver_17 : decode cX5_handOver 17 = .ok (.if_acmp .ne 10, 3) := by decide +kernel
theorem dX5_handOver_20 : decode cX5_handOver 20 = .ok (.aload_n 0, 1) := by decide +kernel
theorem dX5_handOver_21 : decode cX5_handOver 21 = .ok (.getfield 41, 3) := by decide +kernel
theorem dX5_handOver_24 : decode cX5_handOver 24 = .ok (.iload_n 3, 1) := by decide +kernel
theorem dX5_handOver_25 : decode cX5_handOver 25 = .ok (.aload_n 2, 1) := by decide +kernel
theorem dX5_handOver_26 : decode cX5_handOver 26 = .ok (.aastore, 1) := by decide +kernel
theorem dX5_handOver_27 : decode cX5_handOver 27 = .ok (.iinc 3 1, 3) := by decide +kernel
theorem dX5_handOver_30 : decode cX5_handOver 30 = .ok (.goto (-28), 3) := by decide +kernel
theorem dX5_handOver_33 : decode cX5_handOver 33 = .ok (.aload_n 2, 1) := by decide +kernel
theorem dX5_handOver_34 : decode cX5_handOver 34 = .ok (.dup, 1) := by decide +kernel
theorem dX5_handOver_35 : decode cX5_handOver 35 = .ok (.getfield 155, 3) := by decide +kernel
theorem dX5_handOver_38 : decode cX5_handOver 38 = .ok (.aload_n 1, 1) := by decide +kernel
theorem dX5_handOver_39 : decode cX5_handOver 39 = .ok (.getfield 155, 3) := by decide +kernel
theorem dX5_handOver_42 : decode cX5_handOver 42 = .ok (.iadd, 1) := by decide +kernel
theorem dX5_handOver_43 : decode cX5_handOver 43 = .ok (.putfield 155, 3) := by decide +kernel
theorem dX5_handOver_46 : decode cX5_handOver 46 = .ok (.aload_n 1, 1) := by decide +kernel
theorem dX5_handOver_47 : decode cX5_handOver 47 = .ok (.iconst 0, 1) := by decide +kernel
theorem dX5_handOver_48 : decode cX5_handOver 48 = .ok (.putfield 155, 3) := by decide +kernel
theorem dX5_handOver_51 : decode cX5_handOver 51 = .ok (.return_, 1) := by decide +kernel
set_option maxRecDepth 20000 in
theorem ggX5_lowerWavelength_X3_uses : GoodIn wsX5_lowerWavelength wsX3_uses := goodIn_r _ [8, 9, 53, 54, 55, 56, 57] (by decide +kernel) (by decide +kernel)
set_option maxRecDepth 20000 in
theorem gX5_lowerWavelength_X3_uses : GoodIn wsX5_lowerWavelength (wsV RX5 301 RX3 yX3_uses wsX3_uses) := goodIn_app (goodIn_of _ (by decide +kernel)) ggX5_lowerWavelength_X3_uses
set_option maxRecDepth 20000 in
theorem ggX5_lowerWavelength_X5_wavelengthsUsed : GoodIn wsX5_lowerWavelength wsX5_wavelengthsUsed := goodIn_r _ [14, 15, 16, 17, 18, 19, 20, 21, 22, 23, 24, 25, 26, 27, 28, 29, 30, 31, 32, 7, 33, 34, 35, 5, 6, 8, 9, 36, 37, 38, 39, 40, 58, 59, 60, 61, 62, 63, 64, 65, 74, 75, 76, 77, 78, 79, 80, 53, 54, 55, 56, 57] (by decide +kernel) (by decide +kernel)
set_option maxRecDepth 20000 in
theorem gX5_lowerWavelength_X5_wavelengthsUsed : GoodIn wsX5_lowerWavelength (wsV RX5 119 RX5 yX5_wavelengthsUsed wsX5_wavelengthsUsed) := goodIn_app (goodIn_of _ (by decide +kernel)) ggX5_lowerWavelength_X5_wavelengthsUsed
set_option maxRecDepth 20000 in
theorem ggX5_lowerWavelength_X5_lowestIn : GoodIn wsX5_lowerWavelength wsX5_lowestIn := goodIn_r _ [43] (by decide +kernel) (by decide +kernel)
set_option maxRecDepth 20000 in
theorem gX5_lowerWavelength_X5_lowestIn : GoodIn wsX5_lowerWavelength (va_wsS RX5 304 yX5_lowestIn wsX5_lowestIn) := goodIn_app (goodIn_of _ (by decide +kernel)) ggX5_lowerWavelength_X5_lowestIn
set_option maxRecDepth 20000 in
theorem ggX5_lowerWavelength_X3_firstWavelength : GoodIn wsX5_lowerWavelength wsX3_firstWavelength := goodIn_r _ [47, 36, 37, 38, 7, 39, 40, 34, 53, 54, 55, 56, 57] (by decide +kernel) (by decide +kernel)
set_option maxRecDepth 20000 in
theorem gX5_lowerWavelength_X3_firstWavelength : GoodIn wsX5_lowerWavelength (wsV RX5 307 RX3 yX3_firstWavelength wsX3_firstWavelength) := goodIn_app (goodIn_of _ (by decide +kernel)) ggX5_lowerWavelength_X3_firstWavelength
set_option maxRecDepth 20000 in
theorem ggX5_lowerWavelength_X3_shiftTo : GoodIn wsX5_lowerWavelength wsX3_shiftTo := goodIn_r _ [51, 34, 40, 52, 45, 46, 7, 47, 36, 37, 38, 39, 53, 54, 55, 56, 57] (by decide +kernel) (by decide +kernel)
set_option maxRecDepth 20000 in
theorem gX5_lowerWavelength_X3_shiftTo : GoodIn wsX5_lowerWavelength (wsV RX5 310 RX3 yX3_shiftTo wsX3_shiftTo) := goodIn_app (goodIn_of _ (by decide +kernel)) ggX5_lowerWavelength_X3_shiftTo
theorem dX5_lowerWavelength_0 : decode cX5_lowerWavelength 0 = .ok (.aload_n 1, 1) := by decide +kernel
theorem dX5_lowerWavelength_1 : decode cX5_lowerWavelength 1 = .ok (.ifnull 10, 3) := by decide +kernel
theorem dX5_lowerWavelength_4 : decode cX5_lowerWavelength 4 = .ok (.aload_n 1, 1) := by decide +kernel
theorem dX5_lowerWavelength_5 : decode cX5_lowerWavelength 5 = .ok (.getfield 298, 3) := by decide +kernel
theorem dX5_lowerWavelength_8 : decode cX5_lowerWavelength 8 = .ok (.ifCond .le 5, 3) := by decide +kernel
theorem dX5_lowerWavelength_11 : decode cX5_lowerWavelength 11 = .ok (.iconst 0, 1) := by decide +kernel
theorem dX5_lowerWavelength_12 : decode cX5_lowerWavelength 12 = .ok (.ireturn, 1) := by decide +kernel
theorem dX5_lowerWavelength_13 : decode cX5_lowerWavelength 13 = .ok (.iconst 0, 1) := by decide +kernel
theorem dX5_lowerWavelength_14 : decode cX5_lowerWavelength 14 = .ok (.istore_n 2, 1) := by decide +kernel
theorem dX5_lowerWavelength_15 : decode cX5_lowerWavelength 15 = .ok (.iconst 0, 1) := by decide +kernel
theorem dX5_lowerWavelength_16 : decode cX5_lowerWavelength 16 = .ok (.istore_n 3, 1) := by decide +kernel
theorem dX5_lowerWavelength_17 : decode cX5_lowerWavelength 17 = .ok (.iload_n 3, 1) := by decide +kernel
theorem dX5_lowerWavelength_18 : decode cX5_lowerWavelength 18 = .ok (.aload_n 0, 1) := by decide +kernel
theorem dX5_lowerWavelength_19 : decode cX5_lowerWavelength 19 = .ok (.getfield 12, 3) := by decide +kernel
theorem dX5_lowerWavelength_22 : decode cX5_lowerWavelength 22 = .ok (.getfield 116, 3) := by decide +kernel
theorem dX5_lowerWavelength_25 : decode cX5_lowerWavelength 25 = .ok (.if_icmp .ge 26, 3) := by decide +kernel
theorem dX5_lowerWavelength_28 : decode cX5_lowerWavelength 28 = .ok (.aload_n 1, 1) := by decide +kernel
theorem dX5_lowerWavelength_29 : decode cX5_lowerWavelength 29 = .ok (.iload_n 3, 1) := by decide +kernel
theorem dX5_lowerWavelength_30 : decode cX5_lowerWavelength 30 = .ok (.invokevirtual 301, 3) := by decide +kernel
theorem dX5_lowerWavelength_33 : decode cX5_lowerWavelength 33 = .ok (.ifCond .eq 12, 3) := by decide +kernel
theorem dX5_lowerWavelength_36 : decode cX5_lowerWavelength 36 = .ok (.iload_n 2, 1) := by decide +kernel
theorem dX5_lowerWavelength_37 : decode cX5_lowerWavelength 37 = .ok (.aload_n 0, 1) := by decide +kernel
theorem dX5_lowerWavelength_38 : decode cX5_lowerWavelength 38 = .ok (.iload_n 3, 1) := by decide +kernel
theorem dX5_lowerWavelength_39 : decode cX5_lowerWavelength 39 = .ok (.aconst_null, 1) := by decide +kernel
theorem dX5_lowerWavelength_40 : decode cX5_lowerWavelength 40 = .ok (.invokevirtual 119, 3) := by decide +kernel
theorem dX5_lowerWavelength_43 : decode cX5_lowerWavelength 43 = .ok (.ior, 1) := by decide +kernel
theorem dX5_lowerWavelength_44 : decode cX5_lowerWavelength 44 = .ok (.istore_n 2, 1) := by decide +kernel
theorem dX5_lowerWavelength_45 : decode cX5_lowerWavelength 45 = .ok (.iinc 3 1, 3) := by decide +kernel
theorem dX5_lowerWavelength_48 : decode cX5_lowerWavelength 48 = .ok (.goto (-31), 3) := by decide +kernel
theorem dX5_lowerWavelength_51 : decode cX5_lowerWavelength 51 = .ok (.iload_n 2, 1) := by decide +kernel
theorem dX5_lowerWavelength_52 : decode cX5_lowerWavelength 52 = .ok (.iconst (-1), 1) := by decide +kernel
theorem dX5_lowerWavelength_53 : decode cX5_lowerWavelength 53 = .ok (.ixor, 1) := by decide +kernel
theorem dX5_lowerWavelength_54 : decode cX5_lowerWavelength 54 = .ok (.invokestatic 304, 3) := by decide +kernel
theorem dX5_lowerWavelength_57 : decode cX5_lowerWavelength 57 = .ok (.istore_n 3, 1) := by decide +kernel
theorem dX5_lowerWavelength_58 : decode cX5_lowerWavelength 58 = .ok (.iload_n 3, 1) := by decide +kernel
theorem dX5_lowerWavelength_59 : decode cX5_lowerWavelength 59 = .ok (.aload_n 1, 1) := by decide +kernel
theorem dX5_lowerWavelength_60 : decode cX5_lowerWavelength 60 = .ok (.invokevirtual 307, 3) := by decide +kernel
theorem dX5_lowerWavelength_63 : decode cX5_lowerWavelength 63 = .ok (.if_icmp .lt 5, 3) := by decide +kernel
theorem dX5_lowerWavelength_66 : decode cX5_lowerWavelength 66 = .ok (.iconst 0, 1) := by decide +kernel
theorem dX5_lowerWavelength_67 : decode cX5_lowerWavelength 67 = .ok (.ireturn, 1) := by decide +kernel
theorem dX5_lowerWavelength_68 : decode cX5_lowerWavelength 68 = .ok (.aload_n 1, 1) := by decide +kernel
theorem dX5_lowerWavelength_69 : decode cX5_lowerWavelength 69 = .ok (.iload_n 3, 1) := by decide +kernel
theorem dX5_lowerWavelength_70 : decode cX5_lowerWavelength 70 = .ok (.invokevirtual 310, 3) := by decide +kernel
theorem dX5_lowerWavelength_73 : decode cX5_lowerWavelength 73 = .ok (.iconst 1, 1) := by decide +kernel
theorem dX5_lowerWavelength_74 : decode cX5_lowerWavelength 74 = .ok (.ireturn, 1) := by decide +kernel
theorem dX5_lowestIn_0 : decode cX5_lowestIn 0 = .ok (.iconst 0, 1) := by decide +kernel
theorem dX5_lowestIn_1 : decode cX5_lowestIn 1 = .ok (.istore_n 1, 1) := by decide +kernel
theorem dX5_lowestIn_2 : decode cX5_lowestIn 2 = .ok (.iload_n 1, 1) := by decide +kernel
theorem dX5_lowestIn_3 : decode cX5_lowestIn 3 = .ok (.bipush 8, 2) := by decide +kernel
theorem dX5_lowestIn_5 : decode cX5_lowestIn 5 = .ok (.if_icmp .ge 17, 3) := by decide +kernel
theorem dX5_lowestIn_8 : decode cX5_lowestIn 8 = .ok (.iload_n 0, 1) := by decide +kernel
theorem dX5_lowestIn_9 : decode cX5_lowestIn 9 = .ok (.iload_n 1, 1) := by decide +kernel
theorem dX5_lowestIn_10 : decode cX5_lowestIn 10 = .ok (.ishr, 1) := by decide +kernel
theorem dX5_lowestIn_11 : decode cX5_lowestIn 11 = .ok (.iconst 1, 1) := by decide +kernel
theorem dX5_lowestIn_12 : decode cX5_lowestIn 12 = .ok (.iand, 1) := by decide +kernel
theorem dX5_lowestIn_13 : decode cX5_lowestIn 13 = .ok (.ifCond .ne 9, 3) := by decide +kernel
theorem dX5_lowestIn_16 : decode cX5_lowestIn 16 = .ok (.iinc 1 1, 3) := by decide +kernel
theorem dX5_lowestIn_19 : decode cX5_lowestIn 19 = .ok (.goto (-17), 3) := by decide +kernel
theorem dX5_lowestIn_22 : decode cX5_lowestIn 22 = .ok (.iload_n 1, 1) := by decide +kernel
theorem dX5_lowestIn_23 : decode cX5_lowestIn 23 = .ok (.ireturn, 1) := by decide +kernel
theorem dJ6_bitCount_0f7a4_0 : decode cJ6_bitCount_0f7a4 0 = .ok (.iload_n 0, 1) := by decide +kernel
theorem dJ6_bitCount_0f7a4_1 : decode cJ6_bitCount_0f7a4 1 = .ok (.iload_n 0, 1) := by decide +kernel
theorem dJ6_bitCount_0f7a4_2 : decode cJ6_bitCount_0f7a4 2 = .ok (.iconst 1, 1) := by decide +kernel
theorem dJ6_bitCount_0f7a4_3 : decode cJ6_bitCount_0f7a4 3 = .ok (.iushr, 1) := by decide +kernel
theorem dJ6_bitCount_0f7a4_4 : decode cJ6_bitCount_0f7a4 4 = .ok (.ldc_w 265, 3) := by decide +kernel
theorem dJ6_bitCount_0f7a4_7 : decode cJ6_bitCount_0f7a4 7 = .ok (.iand, 1) := by decide +kernel
theorem dJ6_bitCount_0f7a4_8 : decode cJ6_bitCount_0f7a4 8 = .ok (.isub, 1) := by decide +kernel
theorem dJ6_bitCount_0f7a4_9 : decode cJ6_bitCount_0f7a4 9 = .ok (.istore_n 0, 1) := by decide +kernel
theorem dJ6_bitCount_0f7a4_10 : decode cJ6_bitCount_0f7a4 10 = .ok (.iload_n 0, 1) := by decide +kernel
theorem dJ6_bitCount_0f7a4_11 : decode cJ6_bitCount_0f7a4 11 = .ok (.ldc_w 266, 3) := by decide +kernel
theorem dJ6_bitCount_0f7a4_14 : decode cJ6_bitCount_0f7a4 14 = .ok (.iand, 1) := by decide +kernel
theorem dJ6_bitCount_0f7a4_15 : decode cJ6_bitCount_0f7a4 15 = .ok (.iload_n 0, 1) := by decide +kernel
theorem dJ6_bitCount_0f7a4_16 : decode cJ6_bitCount_0f7a4 16 = .ok (.iconst 2, 1) := by decide +kernel
theorem dJ6_bitCount_0f7a4_17 : decode cJ6_bitCount_0f7a4 17 = .ok (.iushr, 1) := by decide +kernel
theorem dJ6_bitCount_0f7a4_18 : decode cJ6_bitCount_0f7a4 18 = .ok (.ldc_w 266, 3) := by decide +kernel
theorem dJ6_bitCount_0f7a4_21 : decode cJ6_bitCount_0f7a4 21 = .ok (.iand, 1) := by decide +kernel
theorem dJ6_bitCount_0f7a4_22 : decode cJ6_bitCount_0f7a4 22 = .ok (.iadd, 1) := by decide +kernel
theorem dJ6_bitCount_0f7a4_23 : decode cJ6_bitCount_0f7a4 23 = .ok (.istore_n 0, 1) := by decide +kernel
theorem dJ6_bitCount_0f7a4_24 : decode cJ6_bitCount_0f7a4 24 = .ok (.iload_n 0, 1) := by decide +kernel
theorem dJ6_bitCount_0f7a4_25 : decode cJ6_bitCount_0f7a4 25 = .ok (.iload_n 0, 1) := by decide +kernel
theorem dJ6_bitCount_0f7a4_26 : decode cJ6_bitCount_0f7a4 26 = .ok (.iconst 4, 1) := by decide +kernel
theorem dJ6_bitCount_0f7a4_27 : decode cJ6_bitCount_0f7a4 27 = .ok (.iushr, 1) := by decide +kernel
theorem dJ6_bitCount_0f7a4_28 : decode cJ6_bitCount_0f7a4 28 = .ok (.iadd, 1) := by decide +kernel
theorem dJ6_bitCount_0f7a4_29 : decode cJ6_bitCount_0f7a4 29 = .ok (.ldc_w 267, 3) := by decide +kernel
theorem dJ6_bitCount_0f7a4_32 : decode cJ6_bitCount_0f7a4 32 = .ok (.iand, 1) := by decide +kernel
theorem dJ6_bitCount_0f7a4_33 : decode cJ6_bitCount_0f7a4 33 = .ok (.istore_n 0, 1) := by decide +kernel
theorem dJ6_bitCount_0f7a4_34 : decode cJ6_bitCount_0f7a4 34 = .ok (.iload_n 0, 1) := by decide +kernel
theorem dJ6_bitCount_0f7a4_35 : decode cJ6_bitCount_0f7a4 35 = .ok (.iload_n 0, 1) := by decide +kernel
theorem dJ6_bitCount_0f7a4_36 : decode cJ6_bitCount_0f7a4 36 = .ok (.bipush 8, 2) := by decide +kernel
theorem dJ6_bitCount_0f7a4_38 : decode cJ6_bitCount_0f7a4 38 = .ok (.iushr, 1) := by decide +kernel
theorem dJ6_bitCount_0f7a4_39 : decode cJ6_bitCount_0f7a4 39 = .ok (.iadd, 1) := by decide +kernel
theorem dJ6_bitCount_0f7a4_40 : decode cJ6_bitCount_0f7a4 40 = .ok (.istore_n 0, 1) := by decide +kernel
theorem dJ6_bitCount_0f7a4_41 : decode cJ6_bitCount_0f7a4 41 = .ok (.iload_n 0, 1) := by decide +kernel
theorem dJ6_bitCount_0f7a4_42 : decode cJ6_bitCount_0f7a4 42 = .ok (.iload_n 0, 1) := by decide +kernel
theorem dJ6_bitCount_0f7a4_43 : decode cJ6_bitCount_0f7a4 43 = .ok (.bipush 16, 2) := by decide +kernel
theorem dJ6_bitCount_0f7a4_45 : decode cJ6_bitCount_0f7a4 45 = .ok (.iushr, 1) := by decide +kernel
theorem dJ6_bitCount_0f7a4_46 : decode cJ6_bitCount_0f7a4 46 = .ok (.iadd, 1) := by decide +kernel
theorem dJ6_bitCount_0f7a4_47 : decode cJ6_bitCount_0f7a4 47 = .ok (.istore_n 0, 1) := by decide +kernel
theorem dJ6_bitCount_0f7a4_48 : decode cJ6_bitCount_0f7a4 48 = .ok (.iload_n 0, 1) := by decide +kernel
theorem dJ6_bitCount_0f7a4_49 : decode cJ6_bitCount_0f7a4 49 = .ok (.bipush 63, 2) := by decide +kernel
theorem dJ6_bitCount_0f7a4_51 : decode cJ6_bitCount_0f7a4 51 = .ok (.iand, 1) := by decide +kernel
theorem dJ6_bitCount_0f7a4_52 : decode cJ6_bitCount_0f7a4 52 = .ok (.ireturn, 1) := by decide +kernel
theorem dJ9_max_7cf53_0 : decode cJ9_max_7cf53 0 = .ok (.iload_n 0, 1) := by decide +kernel
theorem dJ9_max_7cf53_1 : decode cJ9_max_7cf53 1 = .ok (.iload_n 1, 1) := by decide +kernel
theorem dJ9_max_7cf53_2 : decode cJ9_max_7cf53 2 = .ok (.if_icmp .lt 7, 3) := by decide +kernel
theorem dJ9_max_7cf53_5 : decode cJ9_max_7cf53 5 = .ok (.iload_n 0, 1) := by decide +kernel
theorem dJ9_max_7cf53_6 : decode cJ9_max_7cf53 6 = .ok (.goto 4, 3) := by decide +kernel
theorem dJ9_max_7cf53_9 : decode cJ9_max_7cf53 9 = .ok (.iload_n 1, 1) := by decide +kernel
theorem dJ9_max_7cf53_10 : decode cJ9_max_7cf53 10 = .ok (.ireturn, 1) := by decide +kernel
