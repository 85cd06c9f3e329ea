theorem dX0_init_0 : decode cX0_init 0 = .ok (.aload_n 0, 1) := by decide +kernel
theorem dX0_init_1 : decode cX0_init 1 = .ok (.invokespecial 3, 3) := by decide +kernel
theorem dX0_init_4 : decode cX0_init 4 = .ok (.aload_n 0, 1) := by decide +kernel
theorem dX0_init_5 : decode cX0_init 5 = .ok (.bipush 12, 2) := by decide +kernel
theorem dX0_init_7 : decode cX0_init 7 = .ok (.newarray .int, 2) := by decide +kernel
theorem dX0_init_9 : decode cX0_init 9 = .ok (.putfield 9, 3) := by decide +kernel
theorem dX0_init_12 : decode cX0_init 12 = .ok (.aload_n 0, 1) := by decide +kernel
theorem dX0_init_13 : decode cX0_init 13 = .ok (.bipush 12, 2) := by decide +kernel
theorem dX0_init_15 : decode cX0_init 15 = .ok (.newarray .int, 2) := by decide +kernel
theorem dX0_init_17 : decode cX0_init 17 = .ok (.putfield 15, 3) := by decide +kernel
theorem dX0_init_20 : decode cX0_init 20 = .ok (.return_, 1) := by decide +kernel
theorem dX0_clear_0 : decode cX0_clear 0 = .ok (.aload_n 0, 1) := by decide +kernel
theorem dX0_clear_1 : decode cX0_clear 1 = .ok (.iconst 0, 1) := by decide +kernel
theorem dX0_clear_2 : decode cX0_clear 2 = .ok (.putfield 18, 3) := by decide +kernel
theorem dX0_clear_5 : decode cX0_clear 5 = .ok (.return_, 1) := by decide +kernel
theorem dX0_add_0 : decode cX0_add 0 = .ok (.aload_n 0, 1) := by decide +kernel
theorem dX0_add_1 : decode cX0_add 1 = .ok (.getfield 18, 3) := by decide +kernel
theorem dX0_add_4 : decode cX0_add 4 = .ok (.bipush 12, 2) := by decide +kernel
theorem dX0_add_6 : decode cX0_add 6 = .ok (.if_icmp .ge 23, 3) := by decide +kernel
theorem dX0_add_9 : decode cX0_add 9 = .ok (.aload_n 0, 1) := by decide +kernel
theorem dX0_add_10 : decode cX0_add 10 = .ok (.getfield 9, 3) := by decide +kernel
theorem dX0_add_13 : decode cX0_add 13 = .ok (.aload_n 0, 1) := by decide +kernel
theorem dX0_add_14 : decode cX0_add 14 = .ok (.getfield 18, 3) := by decide +kernel
theorem dX0_add_17 : decode cX0_add 17 = .ok (.iload_n 1, 1) := by decide +kernel
theorem dX0_add_18 : decode cX0_add 18 = .ok (.iastore, 1) := by decide +kernel
theorem dX0_add_19 : decode cX0_add 19 = .ok (.aload_n 0, 1) := by decide +kernel
theorem dX0_add_20 : decode cX0_add 20 = .ok (.dup, 1) := by decide +kernel
theorem dX0_add_21 : decode cX0_add 21 = .ok (.getfield 18, 3) := by decide +kernel
theorem dX0_add_24 : decode cX0_add 24 = .ok (.iconst 1, 1) := by decide +kernel
theorem dX0_add_25 : decode cX0_add 25 = .ok (.iadd, 1) := by decide +kernel
theorem dX0_add_26 : decode cX0_add 26 = .ok (.putfield 18, 3) := by decide +kernel
theorem dX0_add_29 : decode cX0_add 29 = .ok (.return_, 1) := by decide +kernel
set_option maxRecDepth 20000 in
theorem ggX0_leastColours_X0_waysOnBusiestFibre : GoodIn wsX0_leastColours wsX0_waysOnBusiestFibre := goodIn_r _ [6, 1, 7, 8, 9, 10, 11, 21, 22, 23] (by decide +kernel) (by decide +kernel)
set_option maxRecDepth 20000 in
theorem gX0_leastColours_X0_waysOnBusiestFibre : GoodIn wsX0_leastColours (wsV RX0 22 RX0 yX0_waysOnBusiestFibre wsX0_waysOnBusiestFibre) := goodIn_app (goodIn_of _ (by decide +kernel)) ggX0_leastColours_X0_waysOnBusiestFibre
set_option maxRecDepth 20000 in
theorem ggX0_leastColours_X0_canPaint : GoodIn wsX0_leastColours wsX0_canPaint := goodIn_r _ [15, 1, 16, 7, 8, 9, 10, 11, 17, 18, 19, 5, 20, 12, 13, 14, 21, 22, 23] (by decide +kernel) (by decide +kernel)
set_option maxRecDepth 20000 in
theorem gX0_leastColours_X0_canPaint : GoodIn wsX0_leastColours (wsV RX0 26 RX0 yX0_canPaint wsX0_canPaint) := goodIn_app (goodIn_of _ (by decide +kernel)) ggX0_leastColours_X0_canPaint
theorem dX0_leastColours_0 : decode cX0_leastColours 0 = .ok (.aload_n 0, 1) := by decide +kernel
theorem dX0_leastColours_1 : decode cX0_leastColours 1 = .ok (.invokevirtual 22, 3) := by decide +kernel
theorem dX0_leastColours_4 : decode cX0_leastColours 4 = .ok (.istore_n 1, 1) := by decide +kernel
theorem dX0_leastColours_5 : decode cX0_leastColours 5 = .ok (.iload_n 1, 1) := by decide +kernel
theorem dX0_leastColours_6 : decode cX0_leastColours 6 = .ok (.aload_n 0, 1) := by decide +kernel
theorem dX0_leastColours_7 : decode cX0_leastColours 7 = .ok (.getfield 18, 3) := by decide +kernel
theorem dX0_leastColours_10 : decode cX0_leastColours 10 = .ok (.if_icmp .ge 27, 3) := by decide +kernel
theorem dX0_leastColours_13 : decode cX0_leastColours 13 = .ok (.aload_n 0, 1) := by decide +kernel
theorem dX0_leastColours_14 : decode cX0_leastColours 14 = .ok (.iconst 1, 1) := by decide +kernel
theorem dX0_leastColours_15 : decode cX0_leastColours 15 = .ok (.aload_n 0, 1) := by decide +kernel
theorem dX0_leastColours_16 : decode cX0_leastColours 16 = .ok (.getfield 18, 3) := by decide +kernel
theorem dX0_leastColours_19 : decode cX0_leastColours 19 = .ok (.ishl, 1) := by decide +kernel
theorem dX0_leastColours_20 : decode cX0_leastColours 20 = .ok (.iconst 1, 1) := by decide +kernel
theorem dX0_leastColours_21 : decode cX0_leastColours 21 = .ok (.isub, 1) := by decide +kernel
theorem dX0_leastColours_22 : decode cX0_leastColours 22 = .ok (.iconst 0, 1) := by decide +kernel
theorem dX0_leastColours_23 : decode cX0_leastColours 23 = .ok (.iconst 0, 1) := by decide +kernel
theorem dX0_leastColours_24 : decode cX0_leastColours 24 = .ok (.iload_n 1, 1) := by decide +kernel
theorem dX0_leastColours_25 : decode cX0_leastColours 25 = .ok (.invokevirtual 26, 3) := by decide +kernel
theorem dX0_leastColours_28 : decode cX0_leastColours 28 = .ok (.ifCond .ne 9, 3) := by decide +kernel
theorem dX0_leastColours_31 : decode cX0_leastColours 31 = .ok (.iinc 1 1, 3) := by decide +kernel
theorem dX0_leastColours_34 : decode cX0_leastColours 34 = .ok (.goto (-29), 3) := by decide +kernel
theorem dX0_leastColours_37 : decode cX0_leastColours 37 = .ok (.iload_n 1, 1) := by decide +kernel
theorem dX0_leastColours_38 : decode cX0_leastColours 38 = .ok (.ireturn, 1) := by decide +kernel
theorem dX0_waysOnBusiestFibre_0 : decode cX0_waysOnBusiestFibre 0 = .ok (.iconst 0, 1) := by decide +kernel
theorem dX0_waysOnBusiestFibre_1 : decode cX0_waysOnBusiestFibre 1 = .ok (.istore_n 1, 1) := by decide +kernel
theorem dX0_waysOnBusiestFibre_2 : decode cX0_waysOnBusiestFibre 2 = .ok (.iconst 0, 1) := by decide +kernel
theorem dX0_waysOnBusiestFibre_3 : decode cX0_waysOnBusiestFibre 3 = .ok (.istore_n 2, 1) := by decide +kernel
theorem dX0_waysOnBusiestFibre_4 : decode cX0_waysOnBusiestFibre 4 = .ok (.iload_n 2, 1) := by decide +kernel
theorem dX0_waysOnBusiestFibre_5 : decode cX0_waysOnBusiestFibre 5 = .ok (.bipush 14, 2) := by decide +kernel
theorem dX0_waysOnBusiestFibre_7 : decode cX0_waysOnBusiestFibre 7 = .ok (.if_icmp .ge 49, 3) := by decide +kernel
theorem dX0_waysOnBusiestFibre_10 : decode cX0_waysOnBusiestFibre 10 = .ok (.iconst 0, 1) := by decide +kernel
theorem dX0_waysOnBusiestFibre_11 : decode cX0_waysOnBusiestFibre 11 = .ok (.istore_n 3, 1) := by decide +kernel
theorem dX0_waysOnBusiestFibre_12 : decode cX0_waysOnBusiestFibre 12 = .ok (.iconst 0, 1) := by decide +kernel
theorem dX0_waysOnBusiestFibre_13 : decode cX0_waysOnBusiestFibre 13 = .ok (.istore 4, 2) := by decide +kernel
theorem dX0_waysOnBusiestFibre_15 : decode cX0_waysOnBusiestFibre 15 = .ok (.iload 4, 2) := by decide +kernel
theorem dX0_waysOnBusiestFibre_17 : decode cX0_waysOnBusiestFibre 17 = .ok (.aload_n 0, 1) := by decide +kernel
theorem dX0_waysOnBusiestFibre_18 : decode cX0_waysOnBusiestFibre 18 = .ok (.getfield 18, 3) := by decide +kernel
theorem dX0_waysOnBusiestFibre_21 : decode cX0_waysOnBusiestFibre 21 = .ok (.if_icmp .ge 23, 3) := by decide +kernel
theorem dX0_waysOnBusiestFibre_24 : decode cX0_waysOnBusiestFibre 24 = .ok (.iload_n 3, 1) := by decide +kernel
theorem dX0_waysOnBusiestFibre_25 : decode cX0_waysOnBusiestFibre 25 = .ok (.aload_n 0, 1) := by decide +kernel
theorem dX0_waysOnBusiestFibre_26 : decode cX0_waysOnBusiestFibre 26 = .ok (.getfield 9, 3) := by decide +kernel
theorem dX0_waysOnBusiestFibre_29 : decode cX0_waysOnBusiestFibre 29 = .ok (.iload 4, 2) := by decide +kernel
theorem dX0_waysOnBusiestFibre_31 : decode cX0_waysOnBusiestFibre 31 = .ok (.iaload, 1) := by decide +kernel
theorem dX0_waysOnBusiestFibre_32 : decode cX0_waysOnBusiestFibre 32 = .ok (.iload_n 2, 1) := by decide +kernel
theorem dX0_waysOnBusiestFibre_33 : decode cX0_waysOnBusiestFibre 33 = .ok (.ishr, 1) := by decide +kernel
theorem dX0_waysOnBusiestFibre_34 : decode cX0_waysOnBusiestFibre 34 = .ok (.iconst 1, 1) := by decide +kernel
theorem dX0_waysOnBusiestFibre_35 : decode cX0_waysOnBusiestFibre 35 = .ok (.iand, 1) := by decide +kernel
theorem dX0_waysOnBusiestFibre_36 : decode cX0_waysOnBusiestFibre 36 = .ok (.iadd, 1) := by decide +kernel
theorem dX0_waysOnBusiestFibre_37 : decode cX0_waysOnBusiestFibre 37 = .ok (.istore_n 3, 1) := by decide +kernel
theorem dX0_waysOnBusiestFibre_38 : decode cX0_waysOnBusiestFibre 38 = .ok (.iinc 4 1, 3) := by decide +kernel
theorem dX0_waysOnBusiestFibre_41 : decode cX0_waysOnBusiestFibre 41 = .ok (.goto (-26), 3) := by decide +kernel
theorem dX0_waysOnBusiestFibre_44 : decode cX0_waysOnBusiestFibre 44 = .ok (.iload_n 1, 1) := by decide +kernel
theorem dX0_waysOnBusiestFibre_45 : decode cX0_waysOnBusiestFibre 45 = .ok (.iload_n 3, 1) := by decide +kernel
theorem dX0_waysOnBusiestFibre_46 : decode cX0_waysOnBusiestFibre 46 = .ok (.invokestatic 30, 3) := by decide +kernel
theorem dX0_waysOnBusiestFibre_49 : decode cX0_waysOnBusiestFibre 49 = .ok (.istore_n 1, 1) := by decide +kernel
theorem dX0_waysOnBusiestFibre_50 : decode cX0_waysOnBusiestFibre 50 = .ok (.iinc 2 1, 3) := by decide +kernel
theorem dX0_waysOnBusiestFibre_53 : decode cX0_waysOnBusiestFibre 53 = .ok (.goto (-49), 3) := by decide +kernel
theorem dX0_waysOnBusiestFibre_56 : decode cX0_waysOnBusiestFibre 56 = .ok (.iload_n 1, 1) := by decide +kernel
theorem dX0_waysOnBusiestFibre_57 : decode cX0_waysOnBusiestFibre 57 = .ok (.ireturn, 1) := by decide +kernel
set_option maxRecDepth 20000 in
theorem ggX0_canPaint_X0_mostBarred : GoodIn wsX0_canPaint wsX0_mostBarred := goodIn_r _ [12, 1, 2, 3, 16, 17, 18] (by decide +kernel) (by decide +kernel)
set_option maxRecDepth 20000 in
theorem gX0_canPaint_X0_mostBarred : GoodIn wsX0_canPaint (wsV RX0 36 RX0 yX0_mostBarred wsX0_mostBarred) := goodIn_app (goodIn_of _ (by decide +kernel)) ggX0_canPaint_X0_mostBarred
set_option maxRecDepth 20000 in
theorem ggX0_canPaint_X0_canPaint : GoodIn wsX0_canPaint wsX0_canPaint := goodIn_r _ [0, 1, 2, 3, 4, 5, 6, 7, 8, 9, 10, 11, 12, 13, 14, 15, 16, 17, 18] (by decide +kernel) (by decide +kernel)
set_option maxRecDepth 20000 in
theorem gX0_canPaint_X0_canPaint : GoodIn wsX0_canPaint (wsV RX0 26 RX0 yX0_canPaint wsX0_canPaint) := goodIn_app (goodIn_of _ (by decide +kernel)) ggX0_canPaint_X0_canPaint
theorem dX0_canPaint_0 : decode cX0_canPaint 0 = .ok (.iload_n 2, 1) := by decide +kernel
theorem dX0_canPaint_1 : decode cX0_canPaint 1 = .ok (.aload_n 0, 1) := by decide +kernel
theorem dX0_canPaint_2 : decode cX0_canPaint 2 = .ok (.getfield 18, 3) := by decide +kernel
theorem dX0_canPaint_5 : decode cX0_canPaint 5 = .ok (.if_icmp .lt 5, 3) := by decide +kernel
theorem dX0_canPaint_8 : decode cX0_canPaint 8 = .ok (.iconst 1, 1) := by decide +kernel
theorem dX0_canPaint_9 : decode cX0_canPaint 9 = .ok (.ireturn, 1) := by decide +kernel
theorem dX0_canPaint_10 : decode cX0_canPaint 10 = .ok (.aload_n 0, 1) := by decide +kernel
theorem dX0_canPaint_11 : decode cX0_canPaint 11 = .ok (.iload_n 1, 1) := by decide +kernel
theorem dX0_canPaint_12 : decode cX0_canPaint 12 = .ok (.iload_n 3, 1) := by decide +kernel
theorem dX0_canPaint_13 : decode cX0_canPaint 13 = .ok (.invokevirtual 36, 3) := by decide +kernel
theorem dX0_canPaint_16 : decode cX0_canPaint 16 = .ok (.istore 5, 2) := by decide +kernel
theorem dX0_canPaint_18 : decode cX0_canPaint 18 = .ok (.iconst 0, 1) := by decide +kernel
theorem dX0_canPaint_19 : decode cX0_canPaint 19 = .ok (.istore 6, 2) := by decide +kernel
theorem dX0_canPaint_21 : decode cX0_canPaint 21 = .ok (.iload 6, 2) := by decide +kernel
theorem dX0_canPaint_23 : decode cX0_canPaint 23 = .ok (.iload_n 3, 1) := by decide +kernel
theorem dX0_canPaint_24 : decode cX0_canPaint 24 = .ok (.if_icmp .gt 108, 3) := by decide +kernel
theorem dX0_canPaint_27 : decode cX0_canPaint 27 = .ok (.iload 6, 2) := by decide +kernel
theorem dX0_canPaint_29 : decode cX0_canPaint 29 = .ok (.iload 4, 2) := by decide +kernel
theorem dX0_canPaint_31 : decode cX0_canPaint 31 = .ok (.if_icmp .ge 101, 3) := by decide +kernel
theorem dX0_canPaint_34 : decode cX0_canPaint 34 = .ok (.aload_n 0, 1) := by decide +kernel
theorem dX0_canPaint_35 : decode cX0_canPaint 35 = .ok (.getfield 15, 3) := by decide +kernel
theorem dX0_canPaint_38 : decode cX0_canPaint 38 = .ok (.iload 6, 2) := by decide +kernel
theorem dX0_canPaint_40 : decode cX0_canPaint 40 = .ok (.iaload, 1) := by decide +kernel
theorem dX0_canPaint_41 : decode cX0_canPaint 41 = .ok (.aload_n 0, 1) := by decide +kernel
theorem dX0_canPaint_42 : decode cX0_canPaint 42 = .ok (.getfield 9, 3) := by decide +kernel
theorem dX0_canPaint_45 : decode cX0_canPaint 45 = .ok (.iload 5, 2) := by decide +kernel
theorem dX0_canPaint_47 : decode cX0_canPaint 47 = .ok (.iaload, 1) := by decide +kernel
theorem dX0_canPaint_48 : decode cX0_canPaint 48 = .ok (.iand, 1) := by decide +kernel
theorem dX0_canPaint_49 : decode cX0_canPaint 49 = .ok (.ifCond .ne 77, 3) := by decide +kernel
theorem dX0_canPaint_52 : decode cX0_canPaint 52 = .ok (.aload_n 0, 1) := by decide +kernel
theorem dX0_canPaint_53 : decode cX0_canPaint 53 = .ok (.getfield 15, 3) := by decide +kernel
theorem dX0_canPaint_56 : decode cX0_canPaint 56 = .ok (.iload 6, 2) := by decide +kernel
theorem dX0_canPaint_58 : decode cX0_canPaint 58 = .ok (.dup2, 1) := by decide +kernel
theorem dX0_canPaint_59 : decode cX0_canPaint 59 = .ok (.iaload, 1) := by decide +kernel
theorem dX0_canPaint_60 : decode cX0_canPaint 60 = .ok (.aload_n 0, 1) := by decide +kernel
theorem dX0_canPaint_61 : decode cX0_canPaint 61 = .ok (.getfield 9, 3) := by decide +kernel
theorem dX0_canPaint_64 : decode cX0_canPaint 64 = .ok (.iload 5, 2) := by decide +kernel
theorem dX0_canPaint_66 : decode cX0_canPaint 66 = .ok (.iaload, 1) := by decide +kernel
theorem dX0_canPaint_67 : decode cX0_canPaint 67 = .ok (.ior, 1) := by decide +kernel
theorem dX0_canPaint_68 : decode cX0_canPaint 68 = .ok (.iastore, 1) := by decide +kernel
theorem dX0_canPaint_69 : decode cX0_canPaint 69 = .ok (.iload_n 3, 1) := by decide +kernel
theorem dX0_canPaint_70 : decode cX0_canPaint 70 = .ok (.iload 6, 2) := by decide +kernel
theorem dX0_canPaint_72 : decode cX0_canPaint 72 = .ok (.iconst 1, 1) := by decide +kernel
theorem dX0_canPaint_73 : decode cX0_canPaint 73 = .ok (.iadd, 1) := by decide +kernel
theorem dX0_canPaint_74 : decode cX0_canPaint 74 = .ok (.invokestatic 30, 3) := by decide +kernel
theorem dX0_canPaint_77 : decode cX0_canPaint 77 = .ok (.istore 7, 2) := by decide +kernel
theorem dX0_canPaint_79 : decode cX0_canPaint 79 = .ok (.aload_n 0, 1) := by decide +kernel
theorem dX0_canPaint_80 : decode cX0_canPaint 80 = .ok (.iload_n 1, 1) := by decide +kernel
theorem dX0_canPaint_81 : decode cX0_canPaint 81 = .ok (.iconst 1, 1) := by decide +kernel
theorem dX0_canPaint_82 : decode cX0_canPaint 82 = .ok (.iload 5, 2) := by decide +kernel
theorem dX0_canPaint_84 : decode cX0_canPaint 84 = .ok (.ishl, 1) := by decide +kernel
theorem dX0_canPaint_85 : decode cX0_canPaint 85 = .ok (.iconst (-1), 1) := by decide +kernel
theorem dX0_canPaint_86 : decode cX0_canPaint 86 = .ok (.ixor, 1) := by decide +kernel
theorem dX0_canPaint_87 : decode cX0_canPaint 87 = .ok (.iand, 1) := by decide +kernel
theorem dX0_canPaint_88 : decode cX0_canPaint 88 = .ok (.iload_n 2, 1) := by decide +kernel
theorem dX0_canPaint_89 : decode cX0_canPaint 89 = .ok (.iconst 1, 1) := by decide +kernel
theorem dX0_canPaint_90 : decode cX0_canPaint 90 = .ok (.iadd, 1) := by decide +kernel
theorem dX0_canPaint_91 : decode cX0_canPaint 91 = .ok (.iload 7, 2) := by decide +kernel
theorem dX0_canPaint_93 : decode cX0_canPaint 93 = .ok (.iload 4, 2) := by decide +kernel
theorem dX0_canPaint_95 : decode cX0_canPaint 95 = .ok (.invokevirtual 26, 3) := by decide +kernel
theorem dX0_canPaint_98 : decode cX0_canPaint 98 = .ok (.istore 8, 2) := by decide +kernel
theorem dX0_canPaint_100 : decode cX0_canPaint 100 = .ok (.aload_n 0, 1) := by decide +kernel
theorem dX0_canPaint_101 : decode cX0_canPaint 101 = .ok (.getfield 15, 3) := by decide +kernel
theorem dX0_canPaint_104 : decode cX0_canPaint 104 = .ok (.iload 6, 2) := by decide +kernel
theorem dX0_canPaint_106 : decode cX0_canPaint 106 = .ok (.dup2, 1) := by decide +kernel
theorem dX0_canPaint_107 : decode cX0_canPaint 107 = .ok (.iaload, 1) := by decide +kernel
theorem dX0_canPaint_108 : decode cX0_canPaint 108 = .ok (.aload_n 0, 1) := by decide +kernel
theorem dX0_canPaint_109 : decode cX0_canPaint 109 = .ok (.getfield 9, 3) := by decide +kernel
theorem dX0_canPaint_112 : decode cX0_canPaint 112 = .ok (.iload 5, 2) := by decide +kernel
theorem dX0_canPaint_114 : decode cX0_canPaint 114 = .ok (.iaload, 1) := by decide +kernel
theorem dX0_canPaint_115 : decode cX0_canPaint 115 = .ok (.iconst (-1), 1) := by decide +kernel
theorem dX0_canPaint_116 : decode cX0_canPaint 116 = .ok (.ixor, 1) := by decide +kernel
theorem dX0_canPaint_117 : decode cX0_canPaint 117 = .ok (.iand, 1) := by decide +kernel
theorem dX0_canPaint_118 : decode cX0_canPaint 118 = .ok (.iastore, 1) := by decide +kernel
theorem dX0_canPaint_119 : decode cX0_canPaint 119 = .ok (.iload 8, 2) := by decide +kernel
theorem dX0_canPaint_121 : decode cX0_canPaint 121 = .ok (.ifCond .eq 5, 3) := by decide +kernel
theorem dX0_canPaint_124 : decode cX0_canPaint 124 = .ok (.iconst 1, 1) := by decide +kernel
theorem dX0_canPaint_125 : decode cX0_canPaint 125 = .ok (.ireturn, 1) := by decide +kernel
theorem dX0_canPaint_126 : decode cX0_canPaint 126 = .ok (.iinc 6 1, 3) := by decide +kernel
theorem dX0_canPaint_129 : decode cX0_canPaint 129 = .ok (.goto (-108), 3) := by decide +kernel
theorem dX0_canPaint_132 : decode cX0_canPaint 132 = .ok (.iconst 0, 1) := by decide +kernel
theorem dX0_canPaint_133 : decode cX0_canPaint 133 = .ok (.ireturn, 1) := by decide +kernel
theorem dX0_mostBarred_0 : decode cX0_mostBarred 0 = .ok (.iconst 0, 1) := by decide +kernel
theorem dX0_mostBarred_1 : decode cX0_mostBarred 1 = .ok (.istore_n 3, 1) := by decide +kernel
theorem dX0_mostBarred_2 : decode cX0_mostBarred 2 = .ok (.iconst (-1), 1) := by decide +kernel
theorem dX0_mostBarred_3 : decode cX0_mostBarred 3 = .ok (.istore 4, 2) := by decide +kernel
theorem dX0_mostBarred_5 : decode cX0_mostBarred 5 = .ok (.iconst 0, 1) := by decide +kernel
theorem dX0_mostBarred_6 : decode cX0_mostBarred 6 = .ok (.istore 5, 2) := by decide +kernel
theorem dX0_mostBarred_8 : decode cX0_mostBarred 8 = .ok (.iload 5, 2) := by decide +kernel
theorem dX0_mostBarred_10 : decode cX0_mostBarred 10 = .ok (.aload_n 0, 1) := by decide +kernel
theorem dX0_mostBarred_11 : decode cX0_mostBarred 11 = .ok (.getfield 18, 3) := by decide +kernel
theorem dX0_mostBarred_14 : decode cX0_mostBarred 14 = .ok (.if_icmp .ge 78, 3) := by decide +kernel
theorem dX0_mostBarred_17 : decode cX0_mostBarred 17 = .ok (.iload_n 1, 1) := by decide +kernel
theorem dX0_mostBarred_18 : decode cX0_mostBarred 18 = .ok (.iload 5, 2) := by decide +kernel
theorem dX0_mostBarred_20 : decode cX0_mostBarred 20 = .ok (.ishr, 1) := by decide +kernel
theorem dX0_mostBarred_21 : decode cX0_mostBarred 21 = .ok (.iconst 1, 1) := by decide +kernel
theorem dX0_mostBarred_22 : decode cX0_mostBarred 22 = .ok (.iand, 1) := by decide +kernel
theorem dX0_mostBarred_23 : decode cX0_mostBarred 23 = .ok (.ifCond .eq 63, 3) := by decide +kernel
theorem dX0_mostBarred_26 : decode cX0_mostBarred 26 = .ok (.iconst 0, 1) := by decide +kernel
theorem dX0_mostBarred_27 : decode cX0_mostBarred 27 = .ok (.istore 6, 2) := by decide +kernel
theorem dX0_mostBarred_29 : decode cX0_mostBarred 29 = .ok (.iconst 0, 1) := by decide +kernel
theorem dX0_mostBarred_30 : decode cX0_mostBarred 30 = .ok (.istore 7, 2) := by decide +kernel
theorem dX0_mostBarred_32 : decode cX0_mostBarred 32 = .ok (.iload 7, 2) := by decide +kernel
theorem dX0_mostBarred_34 : decode cX0_mostBarred 34 = .ok (.iload_n 2, 1) := by decide +kernel
theorem dX0_mostBarred_35 : decode cX0_mostBarred 35 = .ok (.if_icmp .ge 37, 3) := by decide +kernel
theorem dX0_mostBarred_38 : decode cX0_mostBarred 38 = .ok (.iload 6, 2) := by decide +kernel
theorem dX0_mostBarred_40 : decode cX0_mostBarred 40 = .ok (.aload_n 0, 1) := by decide +kernel
theorem dX0_mostBarred_41 : decode cX0_mostBarred 41 = .ok (.getfield 15, 3) := by decide +kernel
theorem dX0_mostBarred_44 : decode cX0_mostBarred 44 = .ok (.iload 7, 2) := by decide +kernel
theorem dX0_mostBarred_46 : decode cX0_mostBarred 46 = .ok (.iaload, 1) := by decide +kernel
theorem dX0_mostBarred_47 : decode cX0_mostBarred 47 = .ok (.aload_n 0, 1) := by decide +kernel
theorem dX0_mostBarred_48 : decode cX0_mostBarred 48 = .ok (.getfield 9, 3) := by decide +kernel
theorem dX0_mostBarred_51 : decode cX0_mostBarred 51 = .ok (.iload 5, 2) := by decide +kernel
theorem dX0_mostBarred_53 : decode cX0_mostBarred 53 = .ok (.iaload, 1) := by decide +kernel
theorem dX0_mostBarred_54 : decode cX0_mostBarred 54 = .ok (.iand, 1) := by decide +kernel
theorem dX0_mostBarred_55 : decode cX0_mostBarred 55 = .ok (.ifCond .eq 7, 3) := by decide +kernel
theorem dX0_mostBarred_58 : decode cX0_mostBarred 58 = .ok (.iconst 1, 1) := by decide +kernel
theorem dX0_mostBarred_59 : decode cX0_mostBarred 59 = .ok (.goto 4, 3) := by decide +kernel
theorem dX0_mostBarred_62 : decode cX0_mostBarred 62 = .ok (.iconst 0, 1) := by decide +kernel
theorem dX0_mostBarred_63 : decode cX0_mostBarred 63 = .ok (.iadd, 1) := by decide +kernel
theorem dX0_mostBarred_64 : decode cX0_mostBarred 64 = .ok (.istore 6, 2) := by decide +kernel
theorem dX0_mostBarred_66 : decode cX0_mostBarred 66 = .ok (.iinc 7 1, 3) := by decide +kernel
theorem dX0_mostBarred_69 : decode cX0_mostBarred 69 = .ok (.goto (-37), 3) := by decide +kernel
theorem dX0_mostBarred_72 : decode cX0_mostBarred 72 = .ok (.iload 6, 2) := by decide +kernel
theorem dX0_mostBarred_74 : decode cX0_mostBarred 74 = .ok (.iload 4, 2) := by decide +kernel
theorem dX0_mostBarred_76 : decode cX0_mostBarred 76 = .ok (.if_icmp .le 10, 3) := by decide +kernel
theorem dX0_mostBarred_79 : decode cX0_mostBarred 79 = .ok (.iload 6, 2) := by decide +kernel
theorem dX0_mostBarred_81 : decode cX0_mostBarred 81 = .ok (.istore 4, 2) := by decide +kernel
theorem dX0_mostBarred_83 : decode cX0_mostBarred 83 = .ok (.iload 5, 2) := by decide +kernel
theorem dX0_mostBarred_85 : decode cX0_mostBarred 85 = .ok (.istore_n 3, 1) := by decide +kernel
theorem dX0_mostBarred_86 : decode cX0_mostBarred 86 = .ok (.iinc 5 1, 3) := by decide +kernel
theorem dX0_mostBarred_89 : decode cX0_mostBarred 89 = .ok (.goto (-81), 3) := by decide +kernel
theorem dX0_mostBarred_92 : decode cX0_mostBarred 92 = .ok (.iload_n 3, 1) := by decide +kernel
theorem dX0_mostBarred_93 : decode cX0_mostBarred 93 = .ok (.ireturn, 1) := by decide +kernel
set_option maxRecDepth 20000 in
theorem ggX1_init_X3_init : GoodIn wsX1_init wsX3_init := goodIn_r _ [11, 12, 2, 3] (by decide +kernel) (by decide +kernel)
set_option maxRecDepth 20000 in
theorem gX1_init_X3_init_n9 : GoodIn wsX1_init (wsX3_init) := ggX1_init_X3_init
theorem dX1_init_0 : decode cX1_init 0 = .ok (.aload_n 0, 1) := by decide +kernel
theorem dX1_init_1 : decode cX1_init 1 = .ok (.invokespecial 1, 3) := by decide +kernel
theorem dX1_init_4 : decode cX1_init 4 = .ok (.aload_n 0, 1) := by decide +kernel
theorem dX1_init_5 : decode cX1_init 5 = .ok (.new 7, 3) := by decide +kernel
theorem dX1_init_8 : decode cX1_init 8 = .ok (.dup, 1) := by decide +kernel
theorem dX1_init_9 : decode cX1_init 9 = .ok (.invokespecial 9, 3) := by decide +kernel
theorem dX1_init_12 : decode cX1_init 12 = .ok (.putfield 10, 3) := by decide +kernel
theorem dX1_init_15 : decode cX1_init 15 = .ok (.aload_n 0, 1) := by decide +kernel
theorem dX1_init_16 : decode cX1_init 16 = .ok (.new 7, 3) := by decide +kernel
theorem dX1_init_19 : decode cX1_init 19 = .ok (.dup, 1) := by decide +kernel
theorem dX1_init_20 : decode cX1_init 20 = .ok (.invokespecial 9, 3) := by decide +kernel
theorem dX1_init_23 : decode cX1_init 23 = .ok (.putfield 16, 3) := by decide +kernel
theorem dX1_init_26 : decode cX1_init 26 = .ok (.aload_n 0, 1) := by decide +kernel
theorem dX1_init_27 : decode cX1_init 27 = .ok (.iload_n 1, 1) := by decide +kernel
theorem dX1_init_28 : decode cX1_init 28 = .ok (.putfield 19, 3) := by decide +kernel
theorem dX1_init_31 : decode cX1_init 31 = .ok (.return_, 1) := by decide +kernel
set_option maxRecDepth 20000 in
theorem ggX1_start_X3_become : GoodIn wsX1_start wsX3_become := goodIn_r _ [11, 12, 13, 14, 15, 16, 24, 25, 26, 27, 28] (by decide +kernel) (by decide +kernel)
set_option maxRecDepth 20000 in
theorem gX1_start_X3_become : GoodIn wsX1_start (wsV RX1 32 RX3 yX3_become wsX3_become) := goodIn_app (goodIn_of _ (by decide +kernel)) ggX1_start_X3_become
theorem dX1_start_0 : decode cX1_start 0 = .ok (.aload_n 0, 1) := by decide +kernel
theorem dX1_start_1 : decode cX1_start 1 = .ok (.iload_n 1, 1) := by decide +kernel
theorem dX1_start_2 : decode cX1_start 2 = .ok (.putfield 23, 3) := by decide +kernel
theorem dX1_start_5 : decode cX1_start 5 = .ok (.aload_n 0, 1) := by decide +kernel
theorem dX1_start_6 : decode cX1_start 6 = .ok (.iload_n 2, 1) := by decide +kernel
theorem dX1_start_7 : decode cX1_start 7 = .ok (.putfield 26, 3) := by decide +kernel
theorem dX1_start_10 : decode cX1_start 10 = .ok (.aload_n 0, 1) := by decide +kernel
theorem dX1_start_11 : decode cX1_start 11 = .ok (.iconst 0, 1) := by decide +kernel
theorem dX1_start_12 : decode cX1_start 12 = .ok (.putfield 29, 3) := by decide +kernel
theorem dX1_start_15 : decode cX1_start 15 = .ok (.aload_n 0, 1) := by decide +kernel
theorem dX1_start_16 : decode cX1_start 16 = .ok (.getfield 10, 3) := by decide +kernel
theorem dX1_start_19 : decode cX1_start 19 = .ok (.aload_n 3, 1) := by decide +kernel
theorem dX1_start_20 : decode cX1_start 20 = .ok (.invokevirtual 32, 3) := by decide +kernel
theorem dX1_start_23 : decode cX1_start 23 = .ok (.aload_n 0, 1) := by decide +kernel
theorem dX1_start_24 : decode cX1_start 24 = .ok (.aload 4, 2) := by decide +kernel
theorem dX1_start_26 : decode cX1_start 26 = .ok (.ifnull 7, 3) := by decide +kernel
theorem dX1_start_29 : decode cX1_start 29 = .ok (.iconst 1, 1) := by decide +kernel
theorem dX1_start_30 : decode cX1_start 30 = .ok (.goto 4, 3) := by decide +kernel
theorem dX1_start_33 : decode cX1_start 33 = .ok (.iconst 0, 1) := by decide +kernel
theorem dX1_start_34 : decode cX1_start 34 = .ok (.putfield 36, 3) := by decide +kernel
theorem dX1_start_37 : decode cX1_start 37 = .ok (.aload 4, 2) := by decide +kernel
theorem dX1_start_39 : decode cX1_start 39 = .ok (.ifnull 12, 3) := by decide +kernel
theorem dX1_start_42 : decode cX1_start 42 = .ok (.aload_n 0, 1) := by decide +kernel
theorem dX1_start_43 : decode cX1_start 43 = .ok (.getfield 16, 3) := by decide +kernel
theorem dX1_start_46 : decode cX1_start 46 = .ok (.aload 4, 2) := by decide +kernel
theorem dX1_start_48 : decode cX1_start 48 = .ok (.invokevirtual 32, 3) := by decide +kernel
theorem dX1_start_51 : decode cX1_start 51 = .ok (.return_, 1) := by decide +kernel
theorem dX1_isGone_0 : decode cX1_isGone 0 = .ok (.aload_n 0, 1) := by decide +kernel
theorem dX1_isGone_1 : decode cX1_isGone 1 = .ok (.getfield 29, 3) := by decide +kernel
theorem dX1_isGone_4 : decode cX1_isGone 4 = .ok (.ifCond .ne 7, 3) := by decide +kernel
theorem dX1_isGone_7 : decode cX1_isGone 7 = .ok (.iconst 1, 1) := by decide +kernel
theorem dX1_isGone_8 : decode cX1_isGone 8 = .ok (.goto 4, 3) := by decide +kernel
theorem dX1_isGone_11 : decode cX1_isGone 11 = .ok (.iconst 0, 1) := by decide +kernel
theorem dX1_isGone_12 : decode cX1_isGone 12 = .ok (.ireturn, 1) := by decide +kernel
set_option maxRecDepth 20000 in
theorem ggX1_isUp_X1_isGone : GoodIn wsX1_isUp wsX1_isGone := goodIn_r _ [9, 10, 11, 12, 13, 14, 15, 16, 17] (by decide +kernel) (by decide +kernel)
set_option maxRecDepth 20000 in
theorem gX1_isUp_X1_isGone : GoodIn wsX1_isUp (wsV RX1 40 RX1 yX1_isGone wsX1_isGone) := goodIn_app (goodIn_of _ (by decide +kernel)) ggX1_isUp_X1_isGone
theorem dX1_isUp_0 : decode cX1_isUp 0 = .ok (.aload_n 0, 1) := by decide +kernel
theorem dX1_isUp_1 : decode cX1_isUp 1 = .ok (.invokevirtual 40, 3) := by decide +kernel
theorem dX1_isUp_4 : decode cX1_isUp 4 = .ok (.ifCond .eq 5, 3) := by decide +kernel
theorem dX1_isUp_7 : decode cX1_isUp 7 = .ok (.iconst 0, 1) := by decide +kernel
theorem dX1_isUp_8 : decode cX1_isUp 8 = .ok (.ireturn, 1) := by decide +kernel
theorem dX1_isUp_9 : decode cX1_isUp 9 = .ok (.aload_n 0, 1) := by decide +kernel
theorem dX1_isUp_10 : decode cX1_isUp 10 = .ok (.getfield 10, 3) := by decide +kernel
theorem dX1_isUp_13 : decode cX1_isUp 13 = .ok (.getfield 44, 3) := by decide +kernel
theorem dX1_isUp_16 : decode cX1_isUp 16 = .ok (.iload_n 1, 1) := by decide +kernel
theorem dX1_isUp_17 : decode cX1_isUp 17 = .ok (.iand, 1) := by decide +kernel
theorem dX1_isUp_18 : decode cX1_isUp 18 = .ok (.ifCond .eq 22, 3) := by decide +kernel
theorem dX1_isUp_21 : decode cX1_isUp 21 = .ok (.aload_n 0, 1) := by decide +kernel
theorem dX1_isUp_22 : decode cX1_isUp 22 = .ok (.getfield 36, 3) := by decide +kernel
theorem dX1_isUp_25 : decode cX1_isUp 25 = .ok (.ifCond .eq 19, 3) := by decide +kernel
theorem dX1_isUp_28 : decode cX1_isUp 28 = .ok (.aload_n 0, 1) := by decide +kernel
theorem dX1_isUp_29 : decode cX1_isUp 29 = .ok (.getfield 16, 3) := by decide +kernel
theorem dX1_isUp_32 : decode cX1_isUp 32 = .ok (.getfield 44, 3) := by decide +kernel
theorem dX1_isUp_35 : decode cX1_isUp 35 = .ok (.iload_n 1, 1) := by decide +kernel
theorem dX1_isUp_36 : decode cX1_isUp 36 = .ok (.iand, 1) := by decide +kernel
theorem dX1_isUp_37 : decode cX1_isUp 37 = .ok (.ifCond .ne 7, 3) := by decide +kernel
theorem dX1_isUp_40 : decode cX1_isUp 40 = .ok (.iconst 1, 1) := by decide +kernel
theorem dX1_isUp_41 : decode cX1_isUp 41 = .ok (.goto 4, 3) := by decide +kernel
theorem dX1_isUp_44 : decode cX1_isUp 44 = .ok (.iconst 0, 1) := by decide +kernel
theorem dX1_isUp_45 : decode cX1_isUp 45 = .ok (.ireturn, 1) := by decide +kernel
theorem dX1_joins_0 : decode cX1_joins 0 = .ok (.aload_n 0, 1) := by decide +kernel
theorem dX1_joins_1 : decode cX1_joins 1 = .ok (.getfield 23, 3) := by decide +kernel
theorem dX1_joins_4 : decode cX1_joins 4 = .ok (.iload_n 1, 1) := by decide +kernel
theorem dX1_joins_5 : decode cX1_joins 5 = .ok (.if_icmp .ne 11, 3) := by decide +kernel
theorem dX1_joins_8 : decode cX1_joins 8 = .ok (.aload_n 0, 1) := by decide +kernel
theorem dX1_joins_9 : decode cX1_joins 9 = .ok (.getfield 26, 3) := by decide +kernel
theorem dX1_joins_12 : decode cX1_joins 12 = .ok (.iload_n 2, 1) := by decide +kernel
theorem dX1_joins_13 : decode cX1_joins 13 = .ok (.if_icmp .eq 19, 3) := by decide +kernel
theorem dX1_joins_16 : decode cX1_joins 16 = .ok (.aload_n 0, 1) := by decide +kernel
theorem dX1_joins_17 : decode cX1_joins 17 = .ok (.getfield 23, 3) := by decide +kernel
theorem dX1_joins_20 : decode cX1_joins 20 = .ok (.iload_n 2, 1) := by decide +kernel
theorem dX1_joins_21 : decode cX1_joins 21 = .ok (.if_icmp .ne 15, 3) := by decide +kernel
theorem dX1_joins_24 : decode cX1_joins 24 = .ok (.aload_n 0, 1) := by decide +kernel
theorem dX1_joins_25 : decode cX1_joins 25 = .ok (.getfield 26, 3) := by decide +kernel
theorem dX1_joins_28 : decode cX1_joins 28 = .ok (.iload_n 1, 1) := by decide +kernel
theorem dX1_joins_29 : decode cX1_joins 29 = .ok (.if_icmp .ne 7, 3) := by decide +kernel
theorem dX1_joins_32 : decode cX1_joins 32 = .ok (.iconst 1, 1) := by decide +kernel
theorem dX1_joins_33 : decode cX1_joins 33 = .ok (.goto 4, 3) := by decide +kernel
theorem dX1_joins_36 : decode cX1_joins 36 = .ok (.iconst 0, 1) := by decide +kernel
theorem dX1_joins_37 : decode cX1_joins 37 = .ok (.ireturn, 1) := by decide +kernel
set_option maxRecDepth 20000 in
theorem ggX1_wayAt_X1_isGone : GoodIn wsX1_wayAt wsX1_isGone := goodIn_r _ [8, 9, 10, 11, 12, 13, 14, 15, 16] (by decide +kernel) (by decide +kernel)
set_option maxRecDepth 20000 in
theorem gX1_wayAt_X1_isGone : GoodIn wsX1_wayAt (wsV RX1 40 RX1 yX1_isGone wsX1_isGone) := goodIn_app (goodIn_of _ (by decide +kernel)) ggX1_wayAt_X1_isGone
theorem dX1_wayAt_0 : decode cX1_wayAt 0 = .ok (.aload_n 0, 1) := by decide +kernel
theorem dX1_wayAt_1 : decode cX1_wayAt 1 = .ok (.invokevirtual 40, 3) := by decide +kernel
theorem dX1_wayAt_4 : decode cX1_wayAt 4 = .ok (.ifCond .eq 5, 3) := by decide +kernel
theorem dX1_wayAt_7 : decode cX1_wayAt 7 = .ok (.aconst_null, 1) := by decide +kernel
theorem dX1_wayAt_8 : decode cX1_wayAt 8 = .ok (.areturn, 1) := by decide +kernel
theorem dX1_wayAt_9 : decode cX1_wayAt 9 = .ok (.iload_n 1, 1) := by decide +kernel
theorem dX1_wayAt_10 : decode cX1_wayAt 10 = .ok (.ifCond .ne 8, 3) := by decide +kernel
theorem dX1_wayAt_13 : decode cX1_wayAt 13 = .ok (.aload_n 0, 1) := by decide +kernel
theorem dX1_wayAt_14 : decode cX1_wayAt 14 = .ok (.getfield 10, 3) := by decide +kernel
theorem dX1_wayAt_17 : decode cX1_wayAt 17 = .ok (.areturn, 1) := by decide +kernel
theorem dX1_wayAt_18 : decode cX1_wayAt 18 = .ok (.iload_n 1, 1) := by decide +kernel
theorem dX1_wayAt_19 : decode cX1_wayAt 19 = .ok (.iconst 1, 1) := by decide +kernel
theorem dX1_wayAt_20 : decode cX1_wayAt 20 = .ok (.if_icmp .ne 17, 3) := by decide +kernel
theorem dX1_wayAt_23 : decode cX1_wayAt 23 = .ok (.aload_n 0, 1) := by decide +kernel
theorem dX1_wayAt_24 : decode cX1_wayAt 24 = .ok (.getfield 36, 3) := by decide +kernel
theorem dX1_wayAt_27 : decode cX1_wayAt 27 = .ok (.ifCond .eq 10, 3) := by decide +kernel
theorem dX1_wayAt_30 : decode cX1_wayAt 30 = .ok (.aload_n 0, 1) := by decide +kernel
theorem dX1_wayAt_31 : decode cX1_wayAt 31 = .ok (.getfield 16, 3) := by decide +kernel
theorem dX1_wayAt_34 : decode cX1_wayAt 34 = .ok (.goto 4, 3) := by decide +kernel
theorem dX1_wayAt_37 : decode cX1_wayAt 37 = .ok (.aconst_null, 1) := by decide +kernel
theorem dX1_wayAt_38 : decode cX1_wayAt 38 = .ok (.areturn, 1) := by decide +kernel
set_option maxRecDepth 20000 in
theorem ggX1_wavelengthsOn_X1_isGone : GoodIn wsX1_wavelengthsOn wsX1_isGone := goodIn_r _ [8, 9, 26, 27, 28, 29, 30, 31, 32] (by decide +kernel) (by decide +kernel)
set_option maxRecDepth 20000 in
theorem gX1_wavelengthsOn_X1_isGone : GoodIn wsX1_wavelengthsOn (wsV RX1 40 RX1 yX1_isGone wsX1_isGone) := goodIn_app (goodIn_of _ (by decide +kernel)) ggX1_wavelengthsOn_X1_isGone
set_option maxRecDepth 20000 in
theorem ggX1_wavelengthsOn_X3_wavelengthsOn : GoodIn wsX1_wavelengthsOn wsX3_wavelengthsOn := goodIn_r _ [14, 15, 16, 17, 18, 13, 19, 20, 21, 22, 23, 24, 25, 33, 34, 35, 36, 37] (by decide +kernel) (by decide +kernel)
set_option maxRecDepth 20000 in
theorem gX1_wavelengthsOn_X3_wavelengthsOn : GoodIn wsX1_wavelengthsOn (wsV RX1 47 RX3 yX3_wavelengthsOn wsX3_wavelengthsOn) := goodIn_app (goodIn_of _ (by decide +kernel)) ggX1_wavelengthsOn_X3_wavelengthsOn
theorem dX1_wavelengthsOn_0 : decode cX1_wavelengthsOn 0 = .ok (.aload_n 0, 1) := by decide +kernel
theorem dX1_wavelengthsOn_1 : decode cX1_wavelengthsOn 1 = .ok (.invokevirtual 40, 3) := by decide +kernel
theorem dX1_wavelengthsOn_4 : decode cX1_wavelengthsOn 4 = .ok (.ifCond .eq 5, 3) := by decide +kernel
theorem dX1_wavelengthsOn_7 : decode cX1_wavelengthsOn 7 = .ok (.iconst 0, 1) := by decide +kernel
theorem dX1_wavelengthsOn_8 : decode cX1_wavelengthsOn 8 = .ok (.ireturn, 1) := by decide +kernel
theorem dX1_wavelengthsOn_9 : decode cX1_wavelengthsOn 9 = .ok (.aload_n 0, 1) := by decide +kernel
theorem dX1_wavelengthsOn_10 : decode cX1_wavelengthsOn 10 = .ok (.getfield 10, 3) := by decide +kernel
theorem dX1_wavelengthsOn_13 : decode cX1_wavelengthsOn 13 = .ok (.iload_n 1, 1) := by decide +kernel
theorem dX1_wavelengthsOn_14 : decode cX1_wavelengthsOn 14 = .ok (.invokevirtual 47, 3) := by decide +kernel
theorem dX1_wavelengthsOn_17 : decode cX1_wavelengthsOn 17 = .ok (.istore_n 2, 1) := by decide +kernel
theorem dX1_wavelengthsOn_18 : decode cX1_wavelengthsOn 18 = .ok (.aload_n 0, 1) := by decide +kernel
theorem dX1_wavelengthsOn_19 : decode cX1_wavelengthsOn 19 = .ok (.getfield 36, 3) := by decide +kernel
theorem dX1_wavelengthsOn_22 : decode cX1_wavelengthsOn 22 = .ok (.ifCond .eq 16, 3) := by decide +kernel
theorem dX1_wavelengthsOn_25 : decode cX1_wavelengthsOn 25 = .ok (.iload_n 2, 1) := by decide +kernel
theorem dX1_wavelengthsOn_26 : decode cX1_wavelengthsOn 26 = .ok (.aload_n 0, 1) := by decide +kernel
theorem dX1_wavelengthsOn_27 : decode cX1_wavelengthsOn 27 = .ok (.getfield 16, 3) := by decide +kernel
theorem dX1_wavelengthsOn_30 : decode cX1_wavelengthsOn 30 = .ok (.iload_n 1, 1) := by decide +kernel
theorem dX1_wavelengthsOn_31 : decode cX1_wavelengthsOn 31 = .ok (.invokevirtual 47, 3) := by decide +kernel
theorem dX1_wavelengthsOn_34 : decode cX1_wavelengthsOn 34 = .ok (.ior, 1) := by decide +kernel
theorem dX1_wavelengthsOn_35 : decode cX1_wavelengthsOn 35 = .ok (.goto 4, 3) := by decide +kernel
theorem dX1_wavelengthsOn_38 : decode cX1_wavelengthsOn 38 = .ok (.iload_n 2, 1) := by decide +kernel
theorem dX1_wavelengthsOn_39 : decode cX1_wavelengthsOn 39 = .ok (.ireturn, 1) := by decide +kernel
theorem dX2_init_0 : decode cX2_init 0 = .ok (.aload_n 0, 1) := by decide +kernel
theorem dX2_init_1 : decode cX2_init 1 = .ok (.invokespecial 3, 3) := by decide +kernel
theorem dX2_init_4 : decode cX2_init 4 = .ok (.aload_n 0, 1) := by decide +kernel
theorem dX2_init_5 : decode cX2_init 5 = .ok (.iconst 4, 1) := by decide +kernel
theorem dX2_init_6 : decode cX2_init 6 = .ok (.putfield 9, 3) := by decide +kernel
theorem dX2_init_9 : decode cX2_init 9 = .ok (.aload_n 0, 1) := by decide +kernel
theorem dX2_init_10 : decode cX2_init 10 = .ok (.iconst 4, 1) := by decide +kernel
theorem dX2_init_11 : decode cX2_init 11 = .ok (.putfield 15, 3) := by decide +kernel
theorem dX2_init_14 : decode cX2_init 14 = .ok (.aload_n 0, 1) := by decide +kernel
theorem dX2_init_15 : decode cX2_init 15 = .ok (.bipush 14, 2) := by decide +kernel
theorem dX2_init_17 : decode cX2_init 17 = .ok (.newarray .int, 2) := by decide +kernel
theorem dX2_init_19 : decode cX2_init 19 = .ok (.putfield 18, 3) := by decide +kernel
theorem dX2_init_22 : decode cX2_init 22 = .ok (.aload_n 0, 1) := by decide +kernel
theorem dX2_init_23 : decode cX2_init 23 = .ok (.bipush 14, 2) := by decide +kernel
theorem dX2_init_25 : decode cX2_init 25 = .ok (.newarray .int, 2) := by decide +kernel
theorem dX2_init_27 : decode cX2_init 27 = .ok (.putfield 22, 3) := by decide +kernel
theorem dX2_init_30 : decode cX2_init 30 = .ok (.aload_n 0, 1) := by decide +kernel
theorem dX2_init_31 : decode cX2_init 31 = .ok (.bipush 14, 2) := by decide +kernel
theorem dX2_init_33 : decode cX2_init 33 = .ok (.newarray .int, 2) := by decide +kernel
theorem dX2_init_35 : decode cX2_init 35 = .ok (.putfield 25, 3) := by decide +kernel
theorem dX2_init_38 : decode cX2_init 38 = .ok (.return_, 1) := by decide +kernel
theorem dX2_startAgain_0 : decode cX2_startAgain 0 = .ok (.aload_n 0, 1) := by decide +kernel
theorem dX2_startAgain_1 : decode cX2_startAgain 1 = .ok (.iload_n 1, 1) := by decide +kernel
theorem dX2_startAgain_2 : decode cX2_startAgain 2 = .ok (.putfield 9, 3) := by decide +kernel
theorem dX2_startAgain_5 : decode cX2_startAgain 5 = .ok (.aload_n 0, 1) := by decide +kernel
theorem dX2_startAgain_6 : decode cX2_startAgain 6 = .ok (.iload_n 2, 1) := by decide +kernel
theorem dX2_startAgain_7 : decode cX2_startAgain 7 = .ok (.putfield 15, 3) := by decide +kernel
theorem dX2_startAgain_10 : decode cX2_startAgain 10 = .ok (.aload_n 0, 1) := by decide +kernel
theorem dX2_startAgain_11 : decode cX2_startAgain 11 = .ok (.iconst 0, 1) := by decide +kernel
theorem dX2_startAgain_12 : decode cX2_startAgain 12 = .ok (.putfield 28, 3) := by decide +kernel
theorem dX2_startAgain_15 : decode cX2_startAgain 15 = .ok (.aload_n 0, 1) := by decide +kernel
theorem dX2_startAgain_16 : decode cX2_startAgain 16 = .ok (.iconst 0, 1) := by decide +kernel
theorem dX2_startAgain_17 : decode cX2_startAgain 17 = .ok (.putfield 31, 3) := by decide +kernel
theorem dX2_startAgain_20 : decode cX2_startAgain 20 = .ok (.aload_n 0, 1) := by decide +kernel
theorem dX2_startAgain_21 : decode cX2_startAgain 21 = .ok (.iconst 0, 1) := by decide +kernel
theorem dX2_startAgain_22 : decode cX2_startAgain 22 = .ok (.putfield 34, 3) := by decide +kernel
theorem dX2_startAgain_25 : decode cX2_startAgain 25 = .ok (.return_, 1) := by decide +kernel
theorem dX2_join_0 : decode cX2_join 0 = .ok (.aload_n 0, 1) := by decide +kernel
theorem dX2_join_1 : decode cX2_join 1 = .ok (.getfield 28, 3) := by decide +kernel
theorem dX2_join_4 : decode cX2_join 4 = .ok (.istore 4, 2) := by decide +kernel
theorem dX2_join_6 : decode cX2_join 6 = .ok (.iload 4, 2) := by decide +kernel
theorem dX2_join_8 : decode cX2_join 8 = .ok (.bipush 14, 2) := by decide +kernel
theorem dX2_join_10 : decode cX2_join 10 = .ok (.if_icmp .lt 5, 3) := by decide +kernel
theorem dX2_join_13 : decode cX2_join 13 = .ok (.iconst (-1), 1) := by decide +kernel
theorem dX2_join_14 : decode cX2_join 14 = .ok (.ireturn, 1) := by decide +kernel
theorem dX2_join_15 : decode cX2_join 15 = .ok (.aload_n 0, 1) := by decide +kernel
theorem dX2_join_16 : decode cX2_join 16 = .ok (.getfield 18, 3) := by decide +kernel
theorem dX2_join_19 : decode cX2_join 19 = .ok (.iload 4, 2) := by decide +kernel
theorem dX2_join_21 : decode cX2_join 21 = .ok (.iload_n 1, 1) := by decide +kernel
theorem dX2_join_22 : decode cX2_join 22 = .ok (.iastore, 1) := by decide +kernel
theorem dX2_join_23 : decode cX2_join 23 = .ok (.aload_n 0, 1) := by decide +kernel
theorem dX2_join_24 : decode cX2_join 24 = .ok (.getfield 22, 3) := by decide +kernel
theorem dX2_join_27 : decode cX2_join 27 = .ok (.iload 4, 2) := by decide +kernel
theorem dX2_join_29 : decode cX2_join 29 = .ok (.iload_n 2, 1) := by decide +kernel
theorem dX2_join_30 : decode cX2_join 30 = .ok (.iastore, 1) := by decide +kernel
theorem dX2_join_31 : decode cX2_join 31 = .ok (.aload_n 0, 1) := by decide +kernel
theorem dX2_join_32 : decode cX2_join 32 = .ok (.getfield 25, 3) := by decide +kernel
theorem dX2_join_35 : decode cX2_join 35 = .ok (.iload 4, 2) := by decide +kernel
theorem dX2_join_37 : decode cX2_join 37 = .ok (.iload_n 3, 1) := by decide +kernel
theorem dX2_join_38 : decode cX2_join 38 = .ok (.iastore, 1) := by decide +kernel
theorem dX2_join_39 : decode cX2_join 39 = .ok (.aload_n 0, 1) := by decide +kernel
theorem dX2_join_40 : decode cX2_join 40 = .ok (.dup, 1) := by decide +kernel
theorem dX2_join_41 : decode cX2_join 41 = .ok (.getfield 28, 3) := by decide +kernel
theorem dX2_join_44 : decode cX2_join 44 = .ok (.iconst 1, 1) := by decide +kernel
theorem dX2_join_45 : decode cX2_join 45 = .ok (.iadd, 1) := by decide +kernel
theorem dX2_join_46 : decode cX2_join 46 = .ok (.putfield 28, 3) := by decide +kernel
theorem dX2_join_49 : decode cX2_join 49 = .ok (.iload 4, 2) := by decide +kernel
theorem dX2_join_51 : decode cX2_join 51 = .ok (.ireturn, 1) := by decide +kernel
theorem dX2_hasNode_0 : decode cX2_hasNode 0 = .ok (.iload_n 1, 1) := by decide +kernel
theorem dX2_hasNode_1 : decode cX2_hasNode 1 = .ok (.ifCond .lt 15, 3) := by decide +kernel
theorem dX2_hasNode_4 : decode cX2_hasNode 4 = .ok (.iload_n 1, 1) := by decide +kernel
theorem dX2_hasNode_5 : decode cX2_hasNode 5 = .ok (.aload_n 0, 1) := by decide +kernel
theorem dX2_hasNode_6 : decode cX2_hasNode 6 = .ok (.getfield 9, 3) := by decide +kernel
theorem dX2_hasNode_9 : decode cX2_hasNode 9 = .ok (.if_icmp .ge 7, 3) := by decide +kernel
theorem dX2_hasNode_12 : decode cX2_hasNode 12 = .ok (.iconst 1, 1) := by decide +kernel
theorem dX2_hasNode_13 : decode cX2_hasNode 13 = .ok (.goto 4, 3) := by decide +kernel
theorem dX2_hasNode_16 : decode cX2_hasNode 16 = .ok (.iconst 0, 1) := by decide +kernel
theorem dX2_hasNode_17 : decode cX2_hasNode 17 = .ok (.ireturn, 1) := by decide +kernel
theorem dX2_hasFibre_0 : decode cX2_hasFibre 0 = .ok (.iload_n 1, 1) := by decide +kernel
theorem dX2_hasFibre_1 : decode cX2_hasFibre 1 = .ok (.ifCond .lt 15, 3) := by decide +kernel
theorem dX2_hasFibre_4 : decode cX2_hasFibre 4 = .ok (.iload_n 1, 1) := by decide +kernel
theorem dX2_hasFibre_5 : decode cX2_hasFibre 5 = .ok (.aload_n 0, 1) := by decide +kernel
theorem dX2_hasFibre_6 : decode cX2_hasFibre 6 = .ok (.getfield 28, 3) := by decide +kernel
theorem dX2_hasFibre_9 : decode cX2_hasFibre 9 = .ok (.if_icmp .ge 7, 3) := by decide +kernel
theorem dX2_hasFibre_12 : decode cX2_hasFibre 12 = .ok (.iconst 1, 1) := by decide +kernel
theorem dX2_hasFibre_13 : decode cX2_hasFibre 13 = .ok (.goto 4, 3) := by decide +kernel
theorem dX2_hasFibre_16 : decode cX2_hasFibre 16 = .ok (.iconst 0, 1) := by decide +kernel
theorem dX2_hasFibre_17 : decode cX2_hasFibre 17 = .ok (.ireturn, 1) := by decide +kernel
theorem dX2_isCut_0 : decode cX2_isCut 0 = .ok (.aload_n 0, 1) := by decide +kernel
theorem dX2_isCut_1 : decode cX2_isCut 1 = .ok (.getfield 34, 3) := by decide +kernel
theorem dX2_isCut_4 : decode cX2_isCut 4 = .ok (.iload_n 1, 1) := by decide +kernel
theorem dX2_isCut_5 : decode cX2_isCut 5 = .ok (.ishr, 1) := by decide +kernel
theorem dX2_isCut_6 : decode cX2_isCut 6 = .ok (.iconst 1, 1) := by decide +kernel
theorem dX2_isCut_7 : decode cX2_isCut 7 = .ok (.iand, 1) := by decide +kernel
theorem dX2_isCut_8 : decode cX2_isCut 8 = .ok (.ifCond .eq 7, 3) := by decide +kernel
theorem dX2_isCut_11 : decode cX2_isCut 11 = .ok (.iconst 1, 1) := by decide +kernel
theorem dX2_isCut_12 : decode cX2_isCut 12 = .ok (.goto 4, 3) := by decide +kernel
theorem dX2_isCut_15 : decode cX2_isCut 15 = .ok (.iconst 0, 1) := by decide +kernel
theorem dX2_isCut_16 : decode cX2_isCut 16 = .ok (.ireturn, 1) := by decide +kernel
set_option maxRecDepth 20000 in
theorem ggX2_acrossFrom_X2_hasFibre : GoodIn wsX2_acrossFrom wsX2_hasFibre := goodIn_r _ [7, 8, 9, 10, 11, 12, 13, 14, 15, 16] (by decide +kernel) (by decide +kernel)
set_option maxRecDepth 20000 in
theorem gX2_acrossFrom_X2_hasFibre : GoodIn wsX2_acrossFrom (wsV RX2 37 RX2 yX2_hasFibre wsX2_hasFibre) := goodIn_app (goodIn_of _ (by decide +kernel)) ggX2_acrossFrom_X2_hasFibre
theorem dX2_acrossFrom_0 : decode cX2_acrossFrom 0 = .ok (.aload_n 0, 1) := by decide +kernel
theorem dX2_acrossFrom_1 : decode cX2_acrossFrom 1 = .ok (.iload_n 2, 1) := by decide +kernel
theorem dX2_acrossFrom_2 : decode cX2_acrossFrom 2 = .ok (.invokevirtual 37, 3) := by decide +kernel
theorem dX2_acrossFrom_5 : decode cX2_acrossFrom 5 = .ok (.ifCond .ne 5, 3) := by decide +kernel
theorem dX2_acrossFrom_8 : decode cX2_acrossFrom 8 = .ok (.iconst (-1), 1) := by decide +kernel
theorem dX2_acrossFrom_9 : decode cX2_acrossFrom 9 = .ok (.ireturn, 1) := by decide +kernel
theorem dX2_acrossFrom_10 : decode cX2_acrossFrom 10 = .ok (.aload_n 0, 1) := by decide +kernel
theorem dX2_acrossFrom_11 : decode cX2_acrossFrom 11 = .ok (.getfield 18, 3) := by decide +kernel
theorem dX2_acrossFrom_14 : decode cX2_acrossFrom 14 = .ok (.iload_n 2, 1) := by decide +kernel
theorem dX2_acrossFrom_15 : decode cX2_acrossFrom 15 = .ok (.iaload, 1) := by decide +kernel
theorem dX2_acrossFrom_16 : decode cX2_acrossFrom 16 = .ok (.iload_n 1, 1) := by decide +kernel
theorem dX2_acrossFrom_17 : decode cX2_acrossFrom 17 = .ok (.if_icmp .ne 10, 3) := by decide +kernel
theorem dX2_acrossFrom_20 : decode cX2_acrossFrom 20 = .ok (.aload_n 0, 1) := by decide +kernel
theorem dX2_acrossFrom_21 : decode cX2_acrossFrom 21 = .ok (.getfield 22, 3) := by decide +kernel
theorem dX2_acrossFrom_24 : decode cX2_acrossFrom 24 = .ok (.iload_n 2, 1) := by decide +kernel
theorem dX2_acrossFrom_25 : decode cX2_acrossFrom 25 = .ok (.iaload, 1) := by decide +kernel
theorem dX2_acrossFrom_26 : decode cX2_acrossFrom 26 = .ok (.ireturn, 1) := by decide +kernel
theorem dX2_acrossFrom_27 : decode cX2_acrossFrom 27 = .ok (.aload_n 0, 1) := by decide +kernel
theorem dX2_acrossFrom_28 : decode cX2_acrossFrom 28 = .ok (.getfield 22, 3) := by decide +kernel
theorem dX2_acrossFrom_31 : decode cX2_acrossFrom 31 = .ok (.iload_n 2, 1) := by decide +kernel
theorem dX2_acrossFrom_32 : decode cX2_acrossFrom 32 = .ok (.iaload, 1) := by decide +kernel
theorem dX2_acrossFrom_33 : decode cX2_acrossFrom 33 = .ok (.iload_n 1, 1) := by decide +kernel
theorem dX2_acrossFrom_34 : decode cX2_acrossFrom 34 = .ok (.if_icmp .ne 12, 3) := by decide +kernel
theorem dX2_acrossFrom_37 : decode cX2_acrossFrom 37 = .ok (.aload_n 0, 1) := by decide +kernel
theorem dX2_acrossFrom_38 : decode cX2_acrossFrom 38 = .ok (.getfield 18, 3) := by decide +kernel
theorem dX2_acrossFrom_41 : decode cX2_acrossFrom 41 = .ok (.iload_n 2, 1) := by decide +kernel
theorem dX2_acrossFrom_42 : decode cX2_acrossFrom 42 = .ok (.iaload, 1) := by decide +kernel
theorem dX2_acrossFrom_43 : decode cX2_acrossFrom 43 = .ok (.goto 4, 3) := by decide +kernel
theorem dX2_acrossFrom_46 : decode cX2_acrossFrom 46 = .ok (.iconst (-1), 1) := by decide +kernel
theorem dX2_acrossFrom_47 : decode cX2_acrossFrom 47 = .ok (.ireturn, 1) := by decide +kernel
set_option maxRecDepth 20000 in
theorem ggX2_lengthOf_X2_hasFibre : GoodIn wsX2_lengthOf wsX2_hasFibre := goodIn_r _ [6, 7, 8, 9, 10, 11, 12, 13, 14, 15] (by decide +kernel) (by decide +kernel)
set_option maxRecDepth 20000 in
theorem gX2_lengthOf_X2_hasFibre : GoodIn wsX2_lengthOf (wsV RX2 37 RX2 yX2_hasFibre wsX2_hasFibre) := goodIn_app (goodIn_of _ (by decide +kernel)) ggX2_lengthOf_X2_hasFibre
theorem dX2_lengthOf_0 : decode cX2_lengthOf 0 = .ok (.aload_n 0, 1) := by decide +kernel
theorem dX2_lengthOf_1 : decode cX2_lengthOf 1 = .ok (.iload_n 1, 1) := by decide +kernel
theorem dX2_lengthOf_2 : decode cX2_lengthOf 2 = .ok (.invokevirtual 37, 3) := by decide +kernel
theorem dX2_lengthOf_5 : decode cX2_lengthOf 5 = .ok (.ifCond .eq 12, 3) := by decide +kernel
theorem dX2_lengthOf_8 : decode cX2_lengthOf 8 = .ok (.aload_n 0, 1) := by decide +kernel
theorem dX2_lengthOf_9 : decode cX2_lengthOf 9 = .ok (.getfield 25, 3) := by decide +kernel
theorem dX2_lengthOf_12 : decode cX2_lengthOf 12 = .ok (.iload_n 1, 1) := by decide +kernel
theorem dX2_lengthOf_13 : decode cX2_lengthOf 13 = .ok (.iaload, 1) := by decide +kernel
theorem dX2_lengthOf_14 : decode cX2_lengthOf 14 = .ok (.goto 4, 3) := by decide +kernel
theorem dX2_lengthOf_17 : decode cX2_lengthOf 17 = .ok (.iconst 0, 1) := by decide +kernel
theorem dX2_lengthOf_18 : decode cX2_lengthOf 18 = .ok (.ireturn, 1) := by decide +kernel
theorem dX3_init_0 : decode cX3_init 0 = .ok (.aload_n 0, 1) := by decide +kernel
theorem dX3_init_1 : decode cX3_init 1 = .ok (.invokespecial 1, 3) := by decide +kernel
theorem dX3_init_4 : decode cX3_init 4 = .ok (.return_, 1) := by decide +kernel
theorem dX3_start_0 : decode cX3_start 0 = .ok (.aload_n 0, 1) := by decide +kernel
theorem dX3_start_1 : decode cX3_start 1 = .ok (.iconst 0, 1) := by decide +kernel
theorem dX3_start_2 : decode cX3_start 2 = .ok (.putfield 7, 3) := by decide +kernel
theorem dX3_start_5 : decode cX3_start 5 = .ok (.aload_n 0, 1) := by decide +kernel
theorem dX3_start_6 : decode cX3_start 6 = .ok (.iload_n 1, 1) := by decide +kernel
theorem dX3_start_7 : decode cX3_start 7 = .ok (.putfield 13, 3) := by decide +kernel
theorem dX3_start_10 : decode cX3_start 10 = .ok (.aload_n 0, 1) := by decide +kernel
theorem dX3_start_11 : decode cX3_start 11 = .ok (.iload_n 2, 1) := by decide +kernel
theorem dX3_start_12 : decode cX3_start 12 = .ok (.putfield 16, 3) := by decide +kernel
theorem dX3_start_15 : decode cX3_start 15 = .ok (.aload_n 0, 1) := by decide +kernel
theorem dX3_start_16 : decode cX3_start 16 = .ok (.iconst 0, 1) := by decide +kernel
theorem dX3_start_17 : decode cX3_start 17 = .ok (.putfield 19, 3) := by decide +kernel
theorem dX3_start_20 : decode cX3_start 20 = .ok (.aload_n 0, 1) := by decide +kernel
theorem dX3_start_21 : decode cX3_start 21 = .ok (.lconst 0, 1) := by decide +kernel
theorem dX3_start_22 : decode cX3_start 22 = .ok (.putfield 22, 3) := by decide +kernel
theorem dX3_start_25 : decode cX3_start 25 = .ok (.return_, 1) := by decide +kernel
theorem dX3_append_0 : decode cX3_append 0 = .ok (.aload_n 0, 1) := by decide +kernel
theorem dX3_append_1 : decode cX3_append 1 = .ok (.aload_n 0, 1) := by decide +kernel
theorem dX3_append_2 : decode cX3_append 2 = .ok (.getfield 22, 3) := by decide +kernel
theorem dX3_append_5 : decode cX3_append 5 = .ok (.bipush 8, 2) := by decide +kernel
theorem dX3_append_7 : decode cX3_append 7 = .ok (.lshl, 1) := by decide +kernel
theorem dX3_append_8 : decode cX3_append 8 = .ok (.bipush 10, 2) := by decide +kernel
theorem dX3_append_10 : decode cX3_append 10 = .ok (.iload_n 1, 1) := by decide +kernel
theorem dX3_append_11 : decode cX3_append 11 = .ok (.imul, 1) := by decide +kernel
theorem dX3_append_12 : decode cX3_append 12 = .ok (.iload_n 2, 1) := by decide +kernel
theorem dX3_append_13 : decode cX3_append 13 = .ok (.iadd, 1) := by decide +kernel
theorem dX3_append_14 : decode cX3_append 14 = .ok (.i2l, 1) := by decide +kernel
theorem dX3_append_15 : decode cX3_append 15 = .ok (.lor, 1) := by decide +kernel
theorem dX3_append_16 : decode cX3_append 16 = .ok (.putfield 22, 3) := by decide +kernel
theorem dX3_append_19 : decode cX3_append 19 = .ok (.aload_n 0, 1) := by decide +kernel
theorem dX3_append_20 : decode cX3_append 20 = .ok (.dup, 1) := by decide +kernel
theorem dX3_append_21 : decode cX3_append 21 = .ok (.getfield 19, 3) := by decide +kernel
theorem dX3_append_24 : decode cX3_append 24 = .ok (.iconst 1, 1) := by decide +kernel
theorem dX3_append_25 : decode cX3_append 25 = .ok (.iload_n 1, 1) := by decide +kernel
theorem dX3_append_26 : decode cX3_append 26 = .ok (.ishl, 1) := by decide +kernel
theorem dX3_append_27 : decode cX3_append 27 = .ok (.ior, 1) := by decide +kernel
theorem dX3_append_28 : decode cX3_append 28 = .ok (.putfield 19, 3) := by decide +kernel
theorem dX3_append_31 : decode cX3_append 31 = .ok (.aload_n 0, 1) := by decide +kernel
theorem dX3_append_32 : decode cX3_append 32 = .ok (.dup, 1) := by decide +kernel
theorem dX3_append_33 : decode cX3_append 33 = .ok (.getfield 7, 3) := by decide +kernel
theorem dX3_append_36 : decode cX3_append 36 = .ok (.iconst 1, 1) := by decide +kernel
theorem dX3_append_37 : decode cX3_append 37 = .ok (.iadd, 1) := by decide +kernel
theorem dX3_append_38 : decode cX3_append 38 = .ok (.putfield 7, 3) := by decide +kernel
theorem dX3_append_41 : decode cX3_append 41 = .ok (.return_, 1) := by decide +kernel
theorem dX3_become_0 : decode cX3_become 0 = .ok (.aload_n 0, 1) := by decide +kernel
theorem dX3_become_1 : decode cX3_become 1 = .ok (.aload_n 1, 1) := by decide +kernel
theorem dX3_become_2 : decode cX3_become 2 = .ok (.getfield 7, 3) := by decide +kernel
theorem dX3_become_5 : decode cX3_become 5 = .ok (.putfield 7, 3) := by decide +kernel
theorem dX3_become_8 : decode cX3_become 8 = .ok (.aload_n 0, 1) := by decide +kernel
theorem dX3_become_9 : decode cX3_become 9 = .ok (.aload_n 1, 1) := by decide +kernel
theorem dX3_become_10 : decode cX3_become 10 = .ok (.getfield 13, 3) := by decide +kernel
theorem dX3_become_13 : decode cX3_become 13 = .ok (.putfield 13, 3) := by decide +kernel
theorem dX3_become_16 : decode cX3_become 16 = .ok (.aload_n 0, 1) := by decide +kernel
theorem dX3_become_17 : decode cX3_become 17 = .ok (.aload_n 1, 1) := by decide +kernel
theorem dX3_become_18 : decode cX3_become 18 = .ok (.getfield 16, 3) := by decide +kernel
theorem dX3_become_21 : decode cX3_become 21 = .ok (.putfield 16, 3) := by decide +kernel
theorem dX3_become_24 : decode cX3_become 24 = .ok (.aload_n 0, 1) := by decide +kernel
theorem dX3_become_25 : decode cX3_become 25 = .ok (.aload_n 1, 1) := by decide +kernel
theorem dX3_become_26 : decode cX3_become 26 = .ok (.getfield 19, 3) := by decide +kernel
theorem dX3_become_29 : decode cX3_become 29 = .ok (.putfield 19, 3) := by decide +kernel
theorem dX3_become_32 : decode cX3_become 32 = .ok (.aload_n 0, 1) := by decide +kernel
theorem dX3_become_33 : decode cX3_become 33 = .ok (.aload_n 1, 1) := by decide +kernel
theorem dX3_become_34 : decode cX3_become 34 = .ok (.getfield 22, 3) := by decide +kernel
theorem dX3_become_37 : decode cX3_become 37 = .ok (.putfield 22, 3) := by decide +kernel
theorem dX3_become_40 : decode cX3_become 40 = .ok (.return_, 1) := by decide +kernel
theorem dX3_channelAt_0 : decode cX3_channelAt 0 = .ok (.aload_n 0, 1) := by decide +kernel
theorem dX3_channelAt_1 : decode cX3_channelAt 1 = .ok (.getfield 22, 3) := by decide +kernel
theorem dX3_channelAt_4 : decode cX3_channelAt 4 = .ok (.bipush 8, 2) := by decide +kernel
theorem dX3_channelAt_6 : decode cX3_channelAt 6 = .ok (.aload_n 0, 1) := by decide +kernel
theorem dX3_channelAt_7 : decode cX3_channelAt 7 = .ok (.getfield 7, 3) := by decide +kernel
theorem dX3_channelAt_10 : decode cX3_channelAt 10 = .ok (.iconst 1, 1) := by decide +kernel
theorem dX3_channelAt_11 : decode cX3_channelAt 11 = .ok (.isub, 1) := by decide +kernel
theorem dX3_channelAt_12 : decode cX3_channelAt 12 = .ok (.iload_n 1, 1) := by decide +kernel
theorem dX3_channelAt_13 : decode cX3_channelAt 13 = .ok (.isub, 1) := by decide +kernel
theorem dX3_channelAt_14 : decode cX3_channelAt 14 = .ok (.imul, 1) := by decide +kernel
theorem dX3_channelAt_15 : decode cX3_channelAt 15 = .ok (.lshr, 1) := by decide +kernel
theorem dX3_channelAt_16 : decode cX3_channelAt 16 = .ok (.l2i, 1) := by decide +kernel
theorem dX3_channelAt_17 : decode cX3_channelAt 17 = .ok (.sipush 255, 3) := by decide +kernel
theorem dX3_channelAt_20 : decode cX3_channelAt 20 = .ok (.iand, 1) := by decide +kernel
theorem dX3_channelAt_21 : decode cX3_channelAt 21 = .ok (.ireturn, 1) := by decide +kernel
set_option maxRecDepth 20000 in
theorem ggX3_firstWavelength_X3_channelAt : GoodIn wsX3_firstWavelength wsX3_channelAt := goodIn_r _ [5, 6, 7, 8, 9, 10, 11, 12] (by decide +kernel) (by decide +kernel)
set_option maxRecDepth 20000 in
theorem gX3_firstWavelength_X3_channelAt : GoodIn wsX3_firstWavelength (wsV RX3 26 RX3 yX3_channelAt wsX3_channelAt) := goodIn_app (goodIn_of _ (by decide +kernel)) ggX3_firstWavelength_X3_channelAt
theorem dX3_firstWavelength_0 : decode cX3_firstWavelength 0 = .ok (.aload_n 0, 1) := by decide +kernel
theorem dX3_firstWavelength_1 : decode cX3_firstWavelength 1 = .ok (.iconst 0, 1) := by decide +kernel
theorem dX3_firstWavelength_2 : decode cX3_firstWavelength 2 = .ok (.invokevirtual 26, 3) := by decide +kernel
theorem dX3_firstWavelength_5 : decode cX3_firstWavelength 5 = .ok (.bipush 10, 2) := by decide +kernel
theorem dX3_firstWavelength_7 : decode cX3_firstWavelength 7 = .ok (.irem, 1) := by decide +kernel
theorem dX3_firstWavelength_8 : decode cX3_firstWavelength 8 = .ok (.ireturn, 1) := by decide +kernel
theorem dX3_uses_0 : decode cX3_uses 0 = .ok (.aload_n 0, 1) := by decide +kernel
theorem dX3_uses_1 : decode cX3_uses 1 = .ok (.getfield 19, 3) := by decide +kernel
theorem dX3_uses_4 : decode cX3_uses 4 = .ok (.iload_n 1, 1) := by decide +kernel
theorem dX3_uses_5 : decode cX3_uses 5 = .ok (.ishr, 1) := by decide +kernel
theorem dX3_uses_6 : decode cX3_uses 6 = .ok (.iconst 1, 1) := by decide +kernel
theorem dX3_uses_7 : decode cX3_uses 7 = .ok (.iand, 1) := by decide +kernel
theorem dX3_uses_8 : decode cX3_uses 8 = .ok (.ifCond .eq 7, 3) := by decide +kernel
theorem dX3_uses_11 : decode cX3_uses 11 = .ok (.iconst 1, 1) := by decide +kernel
theorem dX3_uses_12 : decode cX3_uses 12 = .ok (.goto 4, 3) := by decide +kernel
theorem dX3_uses_15 : decode cX3_uses 15 = .ok (.iconst 0, 1) := by decide +kernel
theorem dX3_uses_16 : decode cX3_uses 16 = .ok (.ireturn, 1) := by decide +kernel
set_option maxRecDepth 20000 in
theorem ggX3_wavelengthsOn_X3_uses : GoodIn wsX3_wavelengthsOn wsX3_uses := goodIn_r _ [6, 7, 13, 14, 15, 16, 17] (by decide +kernel) (by decide +kernel)
set_option maxRecDepth 20000 in
theorem gX3_wavelengthsOn_X3_uses : GoodIn wsX3_wavelengthsOn (wsV RX3 30 RX3 yX3_uses wsX3_uses) := goodIn_app (goodIn_of _ (by decide +kernel)) ggX3_wavelengthsOn_X3_uses
set_option maxRecDepth 20000 in
theorem ggX3_wavelengthsOn_X3_channelAt : GoodIn wsX3_wavelengthsOn wsX3_channelAt := goodIn_r _ [11, 12, 1, 13, 14, 15, 16, 17] (by decide +kernel) (by decide +kernel)
set_option maxRecDepth 20000 in
theorem gX3_wavelengthsOn_X3_channelAt : GoodIn wsX3_wavelengthsOn (wsV RX3 26 RX3 yX3_channelAt wsX3_channelAt) := goodIn_app (goodIn_of _ (by decide +kernel)) ggX3_wavelengthsOn_X3_channelAt
theorem dX3_wavelengthsOn_0 : decode cX3_wavelengthsOn 0 = .ok (.aload_n 0, 1) := by decide +kernel
theorem dX3_wavelengthsOn_1 : decode cX3_wavelengthsOn 1 = .ok (.iload_n 1, 1) := by decide +kernel
theorem dX3_wavelengthsOn_2 : decode cX3_wavelengthsOn 2 = .ok (.invokevirtual 30, 3) := by decide +kernel
theorem dX3_wavelengthsOn_5 : decode cX3_wavelengthsOn 5 = .ok (.ifCond .ne 5, 3) := by decide +kernel
theorem dX3_wavelengthsOn_8 : decode cX3_wavelengthsOn 8 = .ok (.iconst 0, 1) := by decide +kernel
theorem dX3_wavelengthsOn_9 : decode cX3_wavelengthsOn 9 = .ok (.ireturn, 1) := by decide +kernel
theorem dX3_wavelengthsOn_10 : decode cX3_wavelengthsOn 10 = .ok (.iconst 0, 1) := by decide +kernel
theorem dX3_wavelengthsOn_11 : decode cX3_wavelengthsOn 11 = .ok (.istore_n 2, 1) := by decide +kernel
theorem dX3_wavelengthsOn_12 : decode cX3_wavelengthsOn 12 = .ok (.iconst 0, 1) := by decide +kernel
theorem dX3_wavelengthsOn_13 : decode cX3_wavelengthsOn 13 = .ok (.istore_n 3, 1) := by decide +kernel
theorem dX3_wavelengthsOn_14 : decode cX3_wavelengthsOn 14 = .ok (.iload_n 3, 1) := by decide +kernel
theorem dX3_wavelengthsOn_15 : decode cX3_wavelengthsOn 15 = .ok (.aload_n 0, 1) := by decide +kernel
theorem dX3_wavelengthsOn_16 : decode cX3_wavelengthsOn 16 = .ok (.getfield 7, 3) := by decide +kernel
theorem dX3_wavelengthsOn_19 : decode cX3_wavelengthsOn 19 = .ok (.if_icmp .ge 35, 3) := by decide +kernel
theorem dX3_wavelengthsOn_22 : decode cX3_wavelengthsOn 22 = .ok (.aload_n 0, 1) := by decide +kernel
theorem dX3_wavelengthsOn_23 : decode cX3_wavelengthsOn 23 = .ok (.iload_n 3, 1) := by decide +kernel
theorem dX3_wavelengthsOn_24 : decode cX3_wavelengthsOn 24 = .ok (.invokevirtual 26, 3) := by decide +kernel
theorem dX3_wavelengthsOn_27 : decode cX3_wavelengthsOn 27 = .ok (.istore 4, 2) := by decide +kernel
theorem dX3_wavelengthsOn_29 : decode cX3_wavelengthsOn 29 = .ok (.iload 4, 2) := by decide +kernel
theorem dX3_wavelengthsOn_31 : decode cX3_wavelengthsOn 31 = .ok (.bipush 10, 2) := by decide +kernel
theorem dX3_wavelengthsOn_33 : decode cX3_wavelengthsOn 33 = .ok (.idiv, 1) := by decide +kernel
theorem dX3_wavelengthsOn_34 : decode cX3_wavelengthsOn 34 = .ok (.iload_n 1, 1) := by decide +kernel
theorem dX3_wavelengthsOn_35 : decode cX3_wavelengthsOn 35 = .ok (.if_icmp .ne 13, 3) := by decide +kernel
theorem dX3_wavelengthsOn_38 : decode cX3_wavelengthsOn 38 = .ok (.iload_n 2, 1) := by decide +kernel
theorem dX3_wavelengthsOn_39 : decode cX3_wavelengthsOn 39 = .ok (.iconst 1, 1) := by decide +kernel
theorem dX3_wavelengthsOn_40 : decode cX3_wavelengthsOn 40 = .ok (.iload 4, 2) := by decide +kernel
theorem dX3_wavelengthsOn_42 : decode cX3_wavelengthsOn 42 = .ok (.bipush 10, 2) := by decide +kernel
theorem dX3_wavelengthsOn_44 : decode cX3_wavelengthsOn 44 = .ok (.irem, 1) := by decide +kernel
theorem dX3_wavelengthsOn_45 : decode cX3_wavelengthsOn 45 = .ok (.ishl, 1) := by decide +kernel
theorem dX3_wavelengthsOn_46 : decode cX3_wavelengthsOn 46 = .ok (.ior, 1) := by decide +kernel
theorem dX3_wavelengthsOn_47 : decode cX3_wavelengthsOn 47 = .ok (.istore_n 2, 1) := by decide +kernel
theorem dX3_wavelengthsOn_48 : decode cX3_wavelengthsOn 48 = .ok (.iinc 3 1, 3) := by decide +kernel
theorem dX3_wavelengthsOn_51 : decode cX3_wavelengthsOn 51 = .ok (.goto (-37), 3) := by decide +kernel
theorem dX3_wavelengthsOn_54 : decode cX3_wavelengthsOn 54 = .ok (.iload_n 2, 1) := by decide +kernel
theorem dX3_wavelengthsOn_55 : decode cX3_wavelengthsOn 55 = .ok (.ireturn, 1) := by decide +kernel
set_option maxRecDepth 20000 in
theorem ggX3_shiftTo_X3_firstWavelength : GoodIn wsX3_shiftTo wsX3_firstWavelength := goodIn_r _ [7, 8, 9, 10, 6, 11, 2, 1, 12, 13, 14, 15, 16] (by decide +kernel) (by decide +kernel)
set_option maxRecDepth 20000 in
theorem gX3_shiftTo_X3_firstWavelength : GoodIn wsX3_shiftTo (wsV RX3 34 RX3 yX3_firstWavelength wsX3_firstWavelength) := goodIn_app (goodIn_of _ (by decide +kernel)) ggX3_shiftTo_X3_firstWavelength
theorem dX3_shiftTo_0 : decode cX3_shiftTo 0 = .ok (.iload_n 1, 1) := by decide +kernel
theorem dX3_shiftTo_1 : decode cX3_shiftTo 1 = .ok (.aload_n 0, 1) := by decide +kernel
theorem dX3_shiftTo_2 : decode cX3_shiftTo 2 = .ok (.invokevirtual 34, 3) := by decide +kernel
theorem dX3_shiftTo_5 : decode cX3_shiftTo 5 = .ok (.isub, 1) := by decide +kernel
theorem dX3_shiftTo_6 : decode cX3_shiftTo 6 = .ok (.i2l, 1) := by decide +kernel
theorem dX3_shiftTo_7 : decode cX3_shiftTo 7 = .ok (.lstore_n 2, 1) := by decide +kernel
theorem dX3_shiftTo_8 : decode cX3_shiftTo 8 = .ok (.iconst 0, 1) := by decide +kernel
theorem dX3_shiftTo_9 : decode cX3_shiftTo 9 = .ok (.istore 4, 2) := by decide +kernel
theorem dX3_shiftTo_11 : decode cX3_shiftTo 11 = .ok (.iload 4, 2) := by decide +kernel
theorem dX3_shiftTo_13 : decode cX3_shiftTo 13 = .ok (.aload_n 0, 1) := by decide +kernel
theorem dX3_shiftTo_14 : decode cX3_shiftTo 14 = .ok (.getfield 7, 3) := by decide +kernel
theorem dX3_shiftTo_17 : decode cX3_shiftTo 17 = .ok (.if_icmp .ge 25, 3) := by decide +kernel
theorem dX3_shiftTo_20 : decode cX3_shiftTo 20 = .ok (.aload_n 0, 1) := by decide +kernel
theorem dX3_shiftTo_21 : decode cX3_shiftTo 21 = .ok (.dup, 1) := by decide +kernel
theorem dX3_shiftTo_22 : decode cX3_shiftTo 22 = .ok (.getfield 22, 3) := by decide +kernel
theorem dX3_shiftTo_25 : decode cX3_shiftTo 25 = .ok (.lload_n 2, 1) := by decide +kernel
theorem dX3_shiftTo_26 : decode cX3_shiftTo 26 = .ok (.bipush 8, 2) := by decide +kernel
theorem dX3_shiftTo_28 : decode cX3_shiftTo 28 = .ok (.iload 4, 2) := by decide +kernel
theorem dX3_shiftTo_30 : decode cX3_shiftTo 30 = .ok (.imul, 1) := by decide +kernel
theorem dX3_shiftTo_31 : decode cX3_shiftTo 31 = .ok (.lshl, 1) := by decide +kernel
theorem dX3_shiftTo_32 : decode cX3_shiftTo 32 = .ok (.ladd, 1) := by decide +kernel
theorem dX3_shiftTo_33 : decode cX3_shiftTo 33 = .ok (.putfield 22, 3) := by decide +kernel
theorem dX3_shiftTo_36 : decode cX3_shiftTo 36 = .ok (.iinc 4 1, 3) := by decide +kernel
theorem dX3_shiftTo_39 : decode cX3_shiftTo 39 = .ok (.goto (-28), 3) := by decide +kernel
theorem dX3_shiftTo_42 : decode cX3_shiftTo 42 = .ok (.return_, 1) := by decide +kernel
theorem dX3_isAheadOf_0 : decode cX3_isAheadOf 0 = .ok (.aload_n 0, 1) := by decide +kernel
theorem dX3_isAheadOf_1 : decode cX3_isAheadOf 1 = .ok (.getfield 13, 3) := by decide +kernel
theorem dX3_isAheadOf_4 : decode cX3_isAheadOf 4 = .ok (.aload_n 1, 1) := by decide +kernel
theorem dX3_isAheadOf_5 : decode cX3_isAheadOf 5 = .ok (.getfield 13, 3) := by decide +kernel
theorem dX3_isAheadOf_8 : decode cX3_isAheadOf 8 = .ok (.if_icmp .eq 20, 3) := by decide +kernel
theorem dX3_isAheadOf_11 : decode cX3_isAheadOf 11 = .ok (.aload_n 0, 1) := by decide +kernel
theorem dX3_isAheadOf_12 : decode cX3_isAheadOf 12 = .ok (.getfield 13, 3) := by decide +kernel
theorem dX3_isAheadOf_15 : decode cX3_isAheadOf 15 = .ok (.aload_n 1, 1) := by decide +kernel
theorem dX3_isAheadOf_16 : decode cX3_isAheadOf 16 = .ok (.getfield 13, 3) := by decide +kernel
theorem dX3_isAheadOf_19 : decode cX3_isAheadOf 19 = .ok (.if_icmp .ge 7, 3) := by decide +kernel
theorem dX3_isAheadOf_22 : decode cX3_isAheadOf 22 = .ok (.iconst 1, 1) := by decide +kernel
theorem dX3_isAheadOf_23 : decode cX3_isAheadOf 23 = .ok (.goto 4, 3) := by decide +kernel
theorem dX3_isAheadOf_26 : decode cX3_isAheadOf 26 = .ok (.iconst 0, 1) := by decide +kernel
theorem dX3_isAheadOf_27 : decode cX3_isAheadOf 27 = .ok (.ireturn, 1) := by decide +kernel
theorem dX3_isAheadOf_28 : decode cX3_isAheadOf 28 = .ok (.aload_n 0, 1) := by decide +kernel
theorem dX3_isAheadOf_29 : decode cX3_isAheadOf 29 = .ok (.getfield 16, 3) := by decide +kernel
theorem dX3_isAheadOf_32 : decode cX3_isAheadOf 32 = .ok (.aload_n 1, 1) := by decide +kernel
theorem dX3_isAheadOf_33 : decode cX3_isAheadOf 33 = .ok (.getfield 16, 3) := by decide +kernel
theorem dX3_isAheadOf_36 : decode cX3_isAheadOf 36 = .ok (.if_icmp .eq 20, 3) := by decide +kernel
theorem dX3_isAheadOf_39 : decode cX3_isAheadOf 39 = .ok (.aload_n 0, 1) := by decide +kernel
theorem dX3_isAheadOf_40 : decode cX3_isAheadOf 40 = .ok (.getfield 16, 3) := by decide +kernel
theorem dX3_isAheadOf_43 : decode cX3_isAheadOf 43 = .ok (.aload_n 1, 1) := by decide +kernel
theorem dX3_isAheadOf_44 : decode cX3_isAheadOf 44 = .ok (.getfield 16, 3) := by decide +kernel
theorem dX3_isAheadOf_47 : decode cX3_isAheadOf 47 = .ok (.if_icmp .ge 7, 3) := by decide +kernel
theorem dX3_isAheadOf_50 : decode cX3_isAheadOf 50 = .ok (.iconst 1, 1) := by decide +kernel
theorem dX3_isAheadOf_51 : decode cX3_isAheadOf 51 = .ok (.goto 4, 3) := by decide +kernel
theorem dX3_isAheadOf_54 : decode cX3_isAheadOf 54 = .ok (.iconst 0, 1) := by decide +kernel
theorem dX3_isAheadOf_55 : decode cX3_isAheadOf 55 = .ok (.ireturn, 1) := by decide +kernel
theorem dX3_isAheadOf_56 : decode cX3_isAheadOf 56 = .ok (.aload_n 0, 1) := by decide +kernel
theorem dX3_isAheadOf_57 : decode cX3_isAheadOf 57 = .ok (.getfield 7, 3) := by decide +kernel
theorem dX3_isAheadOf_60 : decode cX3_isAheadOf 60 = .ok (.aload_n 1, 1) := by decide +kernel
theorem dX3_isAheadOf_61 : decode cX3_isAheadOf 61 = .ok (.getfield 7, 3) := by decide +kernel
theorem dX3_isAheadOf_64 : decode cX3_isAheadOf 64 = .ok (.if_icmp .eq 20, 3) := by decide +kernel
theorem dX3_isAheadOf_67 : decode cX3_isAheadOf 67 = .ok (.aload_n 0, 1) := by decide +kernel
theorem dX3_isAheadOf_68 : decode cX3_isAheadOf 68 = .ok (.getfield 7, 3) := by decide +kernel
theorem dX3_isAheadOf_71 : decode cX3_isAheadOf 71 = .ok (.aload_n 1, 1) := by decide +kernel
theorem dX3_isAheadOf_72 : decode cX3_isAheadOf 72 = .ok (.getfield 7, 3) := by decide +kernel
theorem dX3_isAheadOf_75 : decode cX3_isAheadOf 75 = .ok (.if_icmp .ge 7, 3) := by decide +kernel
theorem dX3_isAheadOf_78 : decode cX3_isAheadOf 78 = .ok (.iconst 1, 1) := by decide +kernel
theorem dX3_isAheadOf_79 : decode cX3_isAheadOf 79 = .ok (.goto 4, 3) := by decide +kernel
theorem dX3_isAheadOf_82 : decode cX3_isAheadOf 82 = .ok (.iconst 0, 1) := by decide +kernel
theorem dX3_isAheadOf_83 : decode cX3_isAheadOf 83 = .ok (.ireturn, 1) := by decide +kernel
theorem dX3_isAheadOf_84 : decode cX3_isAheadOf 84 = .ok (.aload_n 0, 1) := by decide +kernel
theorem dX3_isAheadOf_85 : decode cX3_isAheadOf 85 = .ok (.getfield 22, 3) := by decide +kernel
theorem dX3_isAheadOf_88 : decode cX3_isAheadOf 88 = .ok (.aload_n 1, 1) := by decide +kernel
theorem dX3_isAheadOf_89 : decode cX3_isAheadOf 89 = .ok (.getfield 22, 3) := by decide +kernel
theorem dX3_isAheadOf_92 : decode cX3_isAheadOf 92 = .ok (.lcmp, 1) := by decide +kernel
theorem dX3_isAheadOf_93 : decode cX3_isAheadOf 93 = .ok (.ifCond .ge 7, 3) := by decide +kernel
theorem dX3_isAheadOf_96 : decode cX3_isAheadOf 96 = .ok (.iconst 1, 1) := by decide +kernel
theorem dX3_isAheadOf_97 : decode cX3_isAheadOf 97 = .ok (.goto 4, 3) := by decide +kernel
theorem dX3_isAheadOf_100 : decode cX3_isAheadOf 100 = .ok (.iconst 0, 1) := by decide +kernel
theorem dX3_isAheadOf_101 : decode cX3_isAheadOf 101 = .ok (.ireturn, 1) := by decide +kernel
set_option maxRecDepth 20000 in
theorem ggX4_init_X3_init : GoodIn wsX4_init wsX3_init := goodIn_r _ [18, 19, 2, 3] (by decide +kernel) (by decide +kernel)
set_option maxRecDepth 20000 in
theorem gX4_init_X3_init_n40 : GoodIn wsX4_init (wsX3_init) := ggX4_init_X3_init
theorem dX4_init_0 : decode cX4_init 0 = .ok (.aload_n 0, 1) := by decide +kernel
theorem dX4_init_1 : decode cX4_init 1 = .ok (.invokespecial 3, 3) := by decide +kernel
theorem dX4_init_4 : decode cX4_init 4 = .ok (.aload_n 0, 1) := by decide +kernel
theorem dX4_init_5 : decode cX4_init 5 = .ok (.bipush 14, 2) := by decide +kernel
theorem dX4_init_7 : decode cX4_init 7 = .ok (.newarray .int, 2) := by decide +kernel
theorem dX4_init_9 : decode cX4_init 9 = .ok (.putfield 9, 3) := by decide +kernel
theorem dX4_init_12 : decode cX4_init 12 = .ok (.aload_n 0, 1) := by decide +kernel
theorem dX4_init_13 : decode cX4_init 13 = .ok (.bipush 7, 2) := by decide +kernel
theorem dX4_init_15 : decode cX4_init 15 = .ok (.newarray .int, 2) := by decide +kernel
theorem dX4_init_17 : decode cX4_init 17 = .ok (.putfield 15, 3) := by decide +kernel
theorem dX4_init_20 : decode cX4_init 20 = .ok (.aload_n 0, 1) := by decide +kernel
theorem dX4_init_21 : decode cX4_init 21 = .ok (.bipush 7, 2) := by decide +kernel
theorem dX4_init_23 : decode cX4_init 23 = .ok (.newarray .int, 2) := by decide +kernel
theorem dX4_init_25 : decode cX4_init 25 = .ok (.putfield 18, 3) := by decide +kernel
theorem dX4_init_28 : decode cX4_init 28 = .ok (.aload_n 0, 1) := by decide +kernel
theorem dX4_init_29 : decode cX4_init 29 = .ok (.bipush 7, 2) := by decide +kernel
theorem dX4_init_31 : decode cX4_init 31 = .ok (.newarray .boolean, 2) := by decide +kernel
theorem dX4_init_33 : decode cX4_init 33 = .ok (.putfield 21, 3) := by decide +kernel
theorem dX4_init_36 : decode cX4_init 36 = .ok (.aload_n 0, 1) := by decide +kernel
theorem dX4_init_37 : decode cX4_init 37 = .ok (.bipush 7, 2) := by decide +kernel
theorem dX4_init_39 : decode cX4_init 39 = .ok (.bipush 7, 2) := by decide +kernel
theorem dX4_init_41 : decode cX4_init 41 = .ok (.multianewarray 25 2, 4) := by decide +kernel
theorem dX4_init_45 : decode cX4_init 45 = .ok (.putfield 27, 3) := by decide +kernel
theorem dX4_init_48 : decode cX4_init 48 = .ok (.aload_n 0, 1) := by decide +kernel
theorem dX4_init_49 : decode cX4_init 49 = .ok (.sipush 162, 3) := by decide +kernel
theorem dX4_init_52 : decode cX4_init 52 = .ok (.anewarray 30, 3) := by decide +kernel
theorem dX4_init_55 : decode cX4_init 55 = .ok (.putfield 32, 3) := by decide +kernel
theorem dX4_init_58 : decode cX4_init 58 = .ok (.aload_n 0, 1) := by decide +kernel
theorem dX4_init_59 : decode cX4_init 59 = .ok (.aload_n 1, 1) := by decide +kernel
theorem dX4_init_60 : decode cX4_init 60 = .ok (.putfield 36, 3) := by decide +kernel
theorem dX4_init_63 : decode cX4_init 63 = .ok (.iconst 0, 1) := by decide +kernel
theorem dX4_init_64 : decode cX4_init 64 = .ok (.istore_n 2, 1) := by decide +kernel
theorem dX4_init_65 : decode cX4_init 65 = .ok (.iload_n 2, 1) := by decide +kernel
theorem dX4_init_66 : decode cX4_init 66 = .ok (.sipush 162, 3) := by decide +kernel
theorem dX4_init_69 : decode cX4_init 69 = .ok (.if_icmp .ge 22, 3) := by decide +kernel
theorem dX4_init_72 : decode cX4_init 72 = .ok (.aload_n 0, 1) := by decide +kernel
theorem dX4_init_73 : decode cX4_init 73 = .ok (.getfield 32, 3) := by decide +kernel
theorem dX4_init_76 : decode cX4_init 76 = .ok (.iload_n 2, 1) := by decide +kernel
theorem dX4_init_77 : decode cX4_init 77 = .ok (.new 30, 3) := by decide +kernel
theorem dX4_init_80 : decode cX4_init 80 = .ok (.dup, 1) := by decide +kernel
theorem dX4_init_81 : decode cX4_init 81 = .ok (.invokespecial 40, 3) := by decide +kernel
theorem dX4_init_84 : decode cX4_init 84 = .ok (.aastore, 1) := by decide +kernel
theorem dX4_init_85 : decode cX4_init 85 = .ok (.iinc 2 1, 3) := by decide +kernel
theorem dX4_init_88 : decode cX4_init 88 = .ok (.goto (-23), 3) := by decide +kernel
theorem dX4_init_91 : decode cX4_init 91 = .ok (.return_, 1) := by decide +kernel
set_option maxRecDepth 20000 in
theorem ggX4_findFirst_X4_aim : GoodIn wsX4_findFirst wsX4_aim := goodIn_r _ [7, 8, 9, 10, 11, 82, 83, 84, 85, 86, 87, 88, 89, 90, 91, 92, 93, 94] (by decide +kernel) (by decide +kernel)
set_option maxRecDepth 20000 in
theorem gX4_findFirst_X4_aim : GoodIn wsX4_findFirst (wsV RX4 47 RX4 yX4_aim wsX4_aim) := goodIn_app (goodIn_of _ (by decide +kernel)) ggX4_findFirst_X4_aim
set_option maxRecDepth 20000 in
theorem ggX4_findFirst_X4_walk : GoodIn wsX4_findFirst wsX4_walk := goodIn_r _ [15, 8, 10, 1, 16, 9, 17, 18, 19, 20, 21, 22, 6, 23, 11, 24, 25, 26, 27, 28, 29, 30, 31, 32, 33, 34, 35, 36, 37, 38, 39, 40, 41, 42, 43, 44, 45, 46, 47, 48, 49, 50, 51, 52, 53, 54, 55, 56, 57, 58, 59, 60, 61, 62, 63, 64, 65, 66, 67, 68, 69, 70, 71, 12, 13, 14, 82, 83, 84, 85, 86, 87, 88, 89, 90, 91, 92, 93, 94, 103, 104, 105, 106, 107, 95, 96, 97, 98, 99, 100, 101, 102] (by decide +kernel) (by decide +kernel)
set_option maxRecDepth 20000 in
theorem gX4_findFirst_X4_walk : GoodIn wsX4_findFirst (wsV RX4 51 RX4 yX4_walk wsX4_walk) := goodIn_app (goodIn_of _ (by decide +kernel)) ggX4_findFirst_X4_walk
set_option maxRecDepth 20000 in
theorem ggX4_findFirst_X4_pickFirst : GoodIn wsX4_findFirst wsX4_pickFirst := goodIn_r _ [75, 76, 77, 11, 25, 78, 79, 80, 37, 81, 40, 41, 39, 43, 82, 83, 84, 85, 86, 87, 88, 89, 90, 91, 92, 93, 94, 103, 104, 105, 106, 107] (by decide +kernel) (by decide +kernel)
set_option maxRecDepth 20000 in
theorem gX4_findFirst_X4_pickFirst : GoodIn wsX4_findFirst (wsV RX4 55 RX4 yX4_pickFirst wsX4_pickFirst) := goodIn_app (goodIn_of _ (by decide +kernel)) ggX4_findFirst_X4_pickFirst
theorem dX4_findFirst_0 : decode cX4_findFirst 0 = .ok (.aload_n 0, 1) := by decide +kernel
theorem dX4_findFirst_1 : decode cX4_findFirst 1 = .ok (.iload_n 2, 1) := by decide +kernel
theorem dX4_findFirst_2 : decode cX4_findFirst 2 = .ok (.sipush 255, 3) := by decide +kernel
theorem dX4_findFirst_5 : decode cX4_findFirst 5 = .ok (.aload_n 0, 1) := by decide +kernel
theorem dX4_findFirst_6 : decode cX4_findFirst 6 = .ok (.getfield 36, 3) := by decide +kernel
theorem dX4_findFirst_9 : decode cX4_findFirst 9 = .ok (.getfield 41, 3) := by decide +kernel
theorem dX4_findFirst_12 : decode cX4_findFirst 12 = .ok (.invokevirtual 47, 3) := by decide +kernel
theorem dX4_findFirst_15 : decode cX4_findFirst 15 = .ok (.aload_n 0, 1) := by decide +kernel
theorem dX4_findFirst_16 : decode cX4_findFirst 16 = .ok (.iload_n 1, 1) := by decide +kernel
theorem dX4_findFirst_17 : decode cX4_findFirst 17 = .ok (.iconst 1, 1) := by decide +kernel
theorem dX4_findFirst_18 : decode cX4_findFirst 18 = .ok (.iload_n 1, 1) := by decide +kernel
theorem dX4_findFirst_19 : decode cX4_findFirst 19 = .ok (.ishl, 1) := by decide +kernel
theorem dX4_findFirst_20 : decode cX4_findFirst 20 = .ok (.sipush 255, 3) := by decide +kernel
theorem dX4_findFirst_23 : decode cX4_findFirst 23 = .ok (.iconst 0, 1) := by decide +kernel
theorem dX4_findFirst_24 : decode cX4_findFirst 24 = .ok (.iconst 0, 1) := by decide +kernel
theorem dX4_findFirst_25 : decode cX4_findFirst 25 = .ok (.invokevirtual 51, 3) := by decide +kernel
theorem dX4_findFirst_28 : decode cX4_findFirst 28 = .ok (.aload_n 0, 1) := by decide +kernel
theorem dX4_findFirst_29 : decode cX4_findFirst 29 = .ok (.invokevirtual 55, 3) := by decide +kernel
theorem dX4_findFirst_32 : decode cX4_findFirst 32 = .ok (.return_, 1) := by decide +kernel
set_option maxRecDepth 20000 in
theorem ggX4_findOnLowestWavelength_X4_aim : GoodIn wsX4_findOnLowestWavelength wsX4_aim := goodIn_r _ [6, 7, 8, 9, 10, 81, 82, 83, 84, 85, 86, 87, 88, 89, 90, 91, 92, 93] (by decide +kernel) (by decide +kernel)
set_option maxRecDepth 20000 in
theorem gX4_findOnLowestWavelength_X4_aim : GoodIn wsX4_findOnLowestWavelength (wsV RX4 47 RX4 yX4_aim wsX4_aim) := goodIn_app (goodIn_of _ (by decide +kernel)) ggX4_findOnLowestWavelength_X4_aim
set_option maxRecDepth 20000 in
theorem ggX4_findOnLowestWavelength_X4_walk : GoodIn wsX4_findOnLowestWavelength wsX4_walk := goodIn_r _ [14, 7, 9, 15, 16, 8, 17, 18, 19, 20, 21, 22, 5, 23, 10, 24, 25, 26, 27, 28, 29, 30, 31, 32, 33, 34, 35, 36, 37, 38, 39, 40, 41, 42, 43, 44, 45, 46, 47, 48, 49, 50, 51, 52, 53, 54, 55, 56, 57, 58, 59, 60, 61, 62, 63, 64, 65, 66, 67, 68, 69, 70, 71, 11, 12, 13, 81, 82, 83, 84, 85, 86, 87, 88, 89, 90, 91, 92, 93, 94, 95, 96, 97, 98, 99, 100, 101, 102, 103, 104, 105, 106] (by decide +kernel) (by decide +kernel)
set_option maxRecDepth 20000 in
theorem gX4_findOnLowestWavelength_X4_walk : GoodIn wsX4_findOnLowestWavelength (wsV RX4 51 RX4 yX4_walk wsX4_walk) := goodIn_app (goodIn_of _ (by decide +kernel)) ggX4_findOnLowestWavelength_X4_walk
set_option maxRecDepth 20000 in
theorem ggX4_findOnLowestWavelength_X4_pickFirst : GoodIn wsX4_findOnLowestWavelength wsX4_pickFirst := goodIn_r _ [75, 1, 76, 10, 25, 77, 78, 79, 37, 80, 40, 41, 39, 43, 81, 82, 83, 84, 85, 86, 87, 88, 89, 90, 91, 92, 93, 94, 95, 96, 97, 98] (by decide +kernel) (by decide +kernel)
set_option maxRecDepth 20000 in
theorem gX4_findOnLowestWavelength_X4_pickFirst : GoodIn wsX4_findOnLowestWavelength (wsV RX4 55 RX4 yX4_pickFirst wsX4_pickFirst) := goodIn_app (goodIn_of _ (by decide +kernel)) ggX4_findOnLowestWavelength_X4_pickFirst
theorem dX4_findOnLowestWavelength_0 : decode cX4_findOnLowestWavelength 0 = .ok (.iconst 0, 1) := by decide +kernel
theorem dX4_findOnLowestWavelength_1 : decode cX4_findOnLowestWavelength 1 = .ok (.istore_n 3, 1) := by decide +kernel
theorem dX4_findOnLowestWavelength_2 : decode cX4_findOnLowestWavelength 2 = .ok (.iload_n 3, 1) := by decide +kernel
theorem dX4_findOnLowestWavelength_3 : decode cX4_findOnLowestWavelength 3 = .ok (.bipush 8, 2) := by decide +kernel
theorem dX4_findOnLowestWavelength_5 : decode cX4_findOnLowestWavelength 5 = .ok (.if_icmp .ge 43, 3) := by decide +kernel
theorem dX4_findOnLowestWavelength_8 : decode cX4_findOnLowestWavelength 8 = .ok (.aload_n 0, 1) := by decide +kernel
theorem dX4_findOnLowestWavelength_9 : decode cX4_findOnLowestWavelength 9 = .ok (.iload_n 2, 1) := by decide +kernel
theorem dX4_findOnLowestWavelength_10 : decode cX4_findOnLowestWavelength 10 = .ok (.iconst 1, 1) := by decide +kernel
theorem dX4_findOnLowestWavelength_11 : decode cX4_findOnLowestWavelength 11 = .ok (.iload_n 3, 1) := by decide +kernel
theorem dX4_findOnLowestWavelength_12 : decode cX4_findOnLowestWavelength 12 = .ok (.ishl, 1) := by decide +kernel
theorem dX4_findOnLowestWavelength_13 : decode cX4_findOnLowestWavelength 13 = .ok (.iconst 0, 1) := by decide +kernel
theorem dX4_findOnLowestWavelength_14 : decode cX4_findOnLowestWavelength 14 = .ok (.invokevirtual 47, 3) := by decide +kernel
theorem dX4_findOnLowestWavelength_17 : decode cX4_findOnLowestWavelength 17 = .ok (.aload_n 0, 1) := by decide +kernel
theorem dX4_findOnLowestWavelength_18 : decode cX4_findOnLowestWavelength 18 = .ok (.iload_n 1, 1) := by decide +kernel
theorem dX4_findOnLowestWavelength_19 : decode cX4_findOnLowestWavelength 19 = .ok (.iconst 1, 1) := by decide +kernel
theorem dX4_findOnLowestWavelength_20 : decode cX4_findOnLowestWavelength 20 = .ok (.iload_n 1, 1) := by decide +kernel
theorem dX4_findOnLowestWavelength_21 : decode cX4_findOnLowestWavelength 21 = .ok (.ishl, 1) := by decide +kernel
theorem dX4_findOnLowestWavelength_22 : decode cX4_findOnLowestWavelength 22 = .ok (.sipush 255, 3) := by decide +kernel
theorem dX4_findOnLowestWavelength_25 : decode cX4_findOnLowestWavelength 25 = .ok (.iconst 0, 1) := by decide +kernel
theorem dX4_findOnLowestWavelength_26 : decode cX4_findOnLowestWavelength 26 = .ok (.iconst 0, 1) := by decide +kernel
theorem dX4_findOnLowestWavelength_27 : decode cX4_findOnLowestWavelength 27 = .ok (.invokevirtual 51, 3) := by decide +kernel
theorem dX4_findOnLowestWavelength_30 : decode cX4_findOnLowestWavelength 30 = .ok (.aload_n 0, 1) := by decide +kernel
theorem dX4_findOnLowestWavelength_31 : decode cX4_findOnLowestWavelength 31 = .ok (.invokevirtual 55, 3) := by decide +kernel
theorem dX4_findOnLowestWavelength_34 : decode cX4_findOnLowestWavelength 34 = .ok (.aload_n 0, 1) := by decide +kernel
theorem dX4_findOnLowestWavelength_35 : decode cX4_findOnLowestWavelength 35 = .ok (.getfield 58, 3) := by decide +kernel
theorem dX4_findOnLowestWavelength_38 : decode cX4_findOnLowestWavelength 38 = .ok (.ifnull 4, 3) := by decide +kernel
theorem dX4_findOnLowestWavelength_41 : decode cX4_findOnLowestWavelength 41 = .ok (.return_, 1) := by decide +kernel
theorem dX4_findOnLowestWavelength_42 : decode cX4_findOnLowestWavelength 42 = .ok (.iinc 3 1, 3) := by decide +kernel
theorem dX4_findOnLowestWavelength_45 : decode cX4_findOnLowestWavelength 45 = .ok (.goto (-43), 3) := by decide +kernel
theorem dX4_findOnLowestWavelength_48 : decode cX4_findOnLowestWavelength 48 = .ok (.return_, 1) := by decide +kernel
set_option maxRecDepth 20000 in
theorem ggX4_findPair_X4_aim : GoodIn wsX4_findPair wsX4_aim := goodIn_r _ [10, 11, 12, 13, 3, 86, 87, 88, 89, 90, 91, 92, 93, 94, 95, 96, 97, 98] (by decide +kernel) (by decide +kernel)
set_option maxRecDepth 20000 in
theorem gX4_findPair_X4_aim : GoodIn wsX4_findPair (wsV RX4 47 RX4 yX4_aim wsX4_aim) := goodIn_app (goodIn_of _ (by decide +kernel)) ggX4_findPair_X4_aim
set_option maxRecDepth 20000 in
theorem ggX4_findPair_X4_walk : GoodIn wsX4_findPair wsX4_walk := goodIn_r _ [17, 11, 13, 18, 19, 12, 20, 21, 22, 23, 24, 25, 9, 26, 3, 27, 4, 28, 29, 30, 31, 32, 33, 34, 35, 36, 37, 38, 39, 40, 41, 42, 43, 44, 45, 46, 47, 48, 49, 50, 51, 52, 53, 54, 55, 56, 57, 58, 59, 60, 61, 62, 63, 64, 65, 66, 67, 68, 69, 70, 71, 72, 73, 14, 15, 16, 86, 87, 88, 89, 90, 91, 92, 93, 94, 95, 96, 97, 98, 99, 100, 101, 102, 103, 104, 105, 106, 107, 108, 109, 110, 111] (by decide +kernel) (by decide +kernel)
set_option maxRecDepth 20000 in
theorem gX4_findPair_X4_walk : GoodIn wsX4_findPair (wsV RX4 51 RX4 yX4_walk wsX4_walk) := goodIn_app (goodIn_of _ (by decide +kernel)) ggX4_findPair_X4_walk
set_option maxRecDepth 20000 in
theorem ggX4_findPair_X4_offerPair : GoodIn wsX4_findPair wsX4_offerPair := goodIn_r _ [77, 1, 2, 78, 79, 80, 39, 81, 42, 43, 41, 45, 82, 83, 9, 84, 85, 86, 87, 88, 89, 90, 91, 92, 93, 94, 95, 96, 97, 98, 99, 100, 101, 102, 103] (by decide +kernel) (by decide +kernel)
set_option maxRecDepth 20000 in
theorem gX4_findPair_X4_offerPair : GoodIn wsX4_findPair (wsV RX4 71 RX4 yX4_offerPair wsX4_offerPair) := goodIn_app (goodIn_of _ (by decide +kernel)) ggX4_findPair_X4_offerPair
theorem dX4_findPair_0 : decode cX4_findPair 0 = .ok (.aload_n 0, 1) := by decide +kernel
theorem dX4_findPair_1 : decode cX4_findPair 1 = .ok (.iload_n 2, 1) := by decide +kernel
theorem dX4_findPair_2 : decode cX4_findPair 2 = .ok (.sipush 255, 3) := by decide +kernel
theorem dX4_findPair_5 : decode cX4_findPair 5 = .ok (.iconst 0, 1) := by decide +kernel
theorem dX4_findPair_6 : decode cX4_findPair 6 = .ok (.invokevirtual 47, 3) := by decide +kernel
theorem dX4_findPair_9 : decode cX4_findPair 9 = .ok (.aload_n 0, 1) := by decide +kernel
theorem dX4_findPair_10 : decode cX4_findPair 10 = .ok (.iload_n 1, 1) := by decide +kernel
theorem dX4_findPair_11 : decode cX4_findPair 11 = .ok (.iconst 1, 1) := by decide +kernel
theorem dX4_findPair_12 : decode cX4_findPair 12 = .ok (.iload_n 1, 1) := by decide +kernel
theorem dX4_findPair_13 : decode cX4_findPair 13 = .ok (.ishl, 1) := by decide +kernel
theorem dX4_findPair_14 : decode cX4_findPair 14 = .ok (.sipush 255, 3) := by decide +kernel
theorem dX4_findPair_17 : decode cX4_findPair 17 = .ok (.iconst 0, 1) := by decide +kernel
theorem dX4_findPair_18 : decode cX4_findPair 18 = .ok (.iconst 0, 1) := by decide +kernel
theorem dX4_findPair_19 : decode cX4_findPair 19 = .ok (.invokevirtual 51, 3) := by decide +kernel
theorem dX4_findPair_22 : decode cX4_findPair 22 = .ok (.aload_n 0, 1) := by decide +kernel
theorem dX4_findPair_23 : decode cX4_findPair 23 = .ok (.aconst_null, 1) := by decide +kernel
theorem dX4_findPair_24 : decode cX4_findPair 24 = .ok (.putfield 58, 3) := by decide +kernel
theorem dX4_findPair_27 : decode cX4_findPair 27 = .ok (.aload_n 0, 1) := by decide +kernel
theorem dX4_findPair_28 : decode cX4_findPair 28 = .ok (.aconst_null, 1) := by decide +kernel
theorem dX4_findPair_29 : decode cX4_findPair 29 = .ok (.putfield 62, 3) := by decide +kernel
theorem dX4_findPair_32 : decode cX4_findPair 32 = .ok (.iconst 0, 1) := by decide +kernel
theorem dX4_findPair_33 : decode cX4_findPair 33 = .ok (.istore_n 3, 1) := by decide +kernel
theorem dX4_findPair_34 : decode cX4_findPair 34 = .ok (.iload_n 3, 1) := by decide +kernel
theorem dX4_findPair_35 : decode cX4_findPair 35 = .ok (.aload_n 0, 1) := by decide +kernel
theorem dX4_findPair_36 : decode cX4_findPair 36 = .ok (.getfield 65, 3) := by decide +kernel
theorem dX4_findPair_39 : decode cX4_findPair 39 = .ok (.if_icmp .ge 69, 3) := by decide +kernel
theorem dX4_findPair_42 : decode cX4_findPair 42 = .ok (.iload_n 3, 1) := by decide +kernel
theorem dX4_findPair_43 : decode cX4_findPair 43 = .ok (.iconst 1, 1) := by decide +kernel
theorem dX4_findPair_44 : decode cX4_findPair 44 = .ok (.iadd, 1) := by decide +kernel
theorem dX4_findPair_45 : decode cX4_findPair 45 = .ok (.istore 4, 2) := by decide +kernel
theorem dX4_findPair_47 : decode cX4_findPair 47 = .ok (.iload 4, 2) := by decide +kernel
theorem dX4_findPair_49 : decode cX4_findPair 49 = .ok (.aload_n 0, 1) := by decide +kernel
theorem dX4_findPair_50 : decode cX4_findPair 50 = .ok (.getfield 65, 3) := by decide +kernel
theorem dX4_findPair_53 : decode cX4_findPair 53 = .ok (.if_icmp .ge 49, 3) := by decide +kernel
theorem dX4_findPair_56 : decode cX4_findPair 56 = .ok (.aload_n 0, 1) := by decide +kernel
theorem dX4_findPair_57 : decode cX4_findPair 57 = .ok (.getfield 32, 3) := by decide +kernel
theorem dX4_findPair_60 : decode cX4_findPair 60 = .ok (.iload_n 3, 1) := by decide +kernel
theorem dX4_findPair_61 : decode cX4_findPair 61 = .ok (.aaload, 1) := by decide +kernel
theorem dX4_findPair_62 : decode cX4_findPair 62 = .ok (.getfield 68, 3) := by decide +kernel
theorem dX4_findPair_65 : decode cX4_findPair 65 = .ok (.aload_n 0, 1) := by decide +kernel
theorem dX4_findPair_66 : decode cX4_findPair 66 = .ok (.getfield 32, 3) := by decide +kernel
theorem dX4_findPair_69 : decode cX4_findPair 69 = .ok (.iload 4, 2) := by decide +kernel
theorem dX4_findPair_71 : decode cX4_findPair 71 = .ok (.aaload, 1) := by decide +kernel
theorem dX4_findPair_72 : decode cX4_findPair 72 = .ok (.getfield 68, 3) := by decide +kernel
theorem dX4_findPair_75 : decode cX4_findPair 75 = .ok (.iand, 1) := by decide +kernel
theorem dX4_findPair_76 : decode cX4_findPair 76 = .ok (.ifCond .ne 20, 3) := by decide +kernel
theorem dX4_findPair_79 : decode cX4_findPair 79 = .ok (.aload_n 0, 1) := by decide +kernel
theorem dX4_findPair_80 : decode cX4_findPair 80 = .ok (.aload_n 0, 1) := by decide +kernel
theorem dX4_findPair_81 : decode cX4_findPair 81 = .ok (.getfield 32, 3) := by decide +kernel
theorem dX4_findPair_84 : decode cX4_findPair 84 = .ok (.iload_n 3, 1) := by decide +kernel
theorem dX4_findPair_85 : decode cX4_findPair 85 = .ok (.aaload, 1) := by decide +kernel
theorem dX4_findPair_86 : decode cX4_findPair 86 = .ok (.aload_n 0, 1) := by decide +kernel
theorem dX4_findPair_87 : decode cX4_findPair 87 = .ok (.getfield 32, 3) := by decide +kernel
theorem dX4_findPair_90 : decode cX4_findPair 90 = .ok (.iload 4, 2) := by decide +kernel
theorem dX4_findPair_92 : decode cX4_findPair 92 = .ok (.aaload, 1) := by decide +kernel
theorem dX4_findPair_93 : decode cX4_findPair 93 = .ok (.invokevirtual 71, 3) := by decide +kernel
theorem dX4_findPair_96 : decode cX4_findPair 96 = .ok (.iinc 4 1, 3) := by decide +kernel
theorem dX4_findPair_99 : decode cX4_findPair 99 = .ok (.goto (-52), 3) := by decide +kernel
theorem dX4_findPair_102 : decode cX4_findPair 102 = .ok (.iinc 3 1, 3) := by decide +kernel
theorem dX4_findPair_105 : decode cX4_findPair 105 = .ok (.goto (-71), 3) := by decide +kernel
theorem dX4_findPair_108 : decode cX4_findPair 108 = .ok (.return_, 1) := by decide +kernel
set_option maxRecDepth 20000 in
theorem ggX4_offerPair_X3_isAheadOf : GoodIn wsX4_offerPair wsX3_isAheadOf := goodIn_r _ [7, 8, 9, 10, 11, 30, 31, 32, 33, 34] (by decide +kernel) (by decide +kernel)
set_option maxRecDepth 20000 in
theorem gX4_offerPair_X3_isAheadOf : GoodIn wsX4_offerPair (wsV RX4 75 RX3 yX3_isAheadOf wsX3_isAheadOf) := goodIn_app (goodIn_of _ (by decide +kernel)) ggX4_offerPair_X3_isAheadOf
set_option maxRecDepth 20000 in
theorem ggX4_offerPair_X4_isPairAhead : GoodIn wsX4_offerPair wsX4_isPairAhead := goodIn_r _ [15, 16, 3, 4, 5, 6, 7, 8, 9, 10, 11, 30, 31, 32, 33, 34] (by decide +kernel) (by decide +kernel)
set_option maxRecDepth 20000 in
theorem gX4_offerPair_X4_isPairAhead : GoodIn wsX4_offerPair (va_wsS RX4 79 yX4_isPairAhead wsX4_isPairAhead) := goodIn_app (goodIn_of _ (by decide +kernel)) ggX4_offerPair_X4_isPairAhead
theorem dX4_offerPair_0 : decode cX4_offerPair 0 = .ok (.aload_n 1, 1) := by decide +kernel
theorem dX4_offerPair_1 : decode cX4_offerPair 1 = .ok (.aload_n 2, 1) := by decide +kernel
theorem dX4_offerPair_2 : decode cX4_offerPair 2 = .ok (.invokevirtual 75, 3) := by decide +kernel
theorem dX4_offerPair_5 : decode cX4_offerPair 5 = .ok (.istore_n 3, 1) := by decide +kernel
theorem dX4_offerPair_6 : decode cX4_offerPair 6 = .ok (.iload_n 3, 1) := by decide +kernel
theorem dX4_offerPair_7 : decode cX4_offerPair 7 = .ok (.ifCond .eq 7, 3) := by decide +kernel
theorem dX4_offerPair_10 : decode cX4_offerPair 10 = .ok (.aload_n 1, 1) := by decide +kernel
theorem dX4_offerPair_11 : decode cX4_offerPair 11 = .ok (.goto 4, 3) := by decide +kernel
theorem dX4_offerPair_14 : decode cX4_offerPair 14 = .ok (.aload_n 2, 1) := by decide +kernel
theorem dX4_offerPair_15 : decode cX4_offerPair 15 = .ok (.astore 4, 2) := by decide +kernel
theorem dX4_offerPair_17 : decode cX4_offerPair 17 = .ok (.iload_n 3, 1) := by decide +kernel
theorem dX4_offerPair_18 : decode cX4_offerPair 18 = .ok (.ifCond .eq 7, 3) := by decide +kernel
theorem dX4_offerPair_21 : decode cX4_offerPair 21 = .ok (.aload_n 2, 1) := by decide +kernel
theorem dX4_offerPair_22 : decode cX4_offerPair 22 = .ok (.goto 4, 3) := by decide +kernel
theorem dX4_offerPair_25 : decode cX4_offerPair 25 = .ok (.aload_n 1, 1) := by decide +kernel
theorem dX4_offerPair_26 : decode cX4_offerPair 26 = .ok (.astore 5, 2) := by decide +kernel
theorem dX4_offerPair_28 : decode cX4_offerPair 28 = .ok (.aload_n 0, 1) := by decide +kernel
theorem dX4_offerPair_29 : decode cX4_offerPair 29 = .ok (.getfield 58, 3) := by decide +kernel
theorem dX4_offerPair_32 : decode cX4_offerPair 32 = .ok (.ifnull 28, 3) := by decide +kernel
theorem dX4_offerPair_35 : decode cX4_offerPair 35 = .ok (.aload_n 0, 1) := by decide +kernel
theorem dX4_offerPair_36 : decode cX4_offerPair 36 = .ok (.getfield 62, 3) := by decide +kernel
theorem dX4_offerPair_39 : decode cX4_offerPair 39 = .ok (.ifnull 21, 3) := by decide +kernel
theorem dX4_offerPair_42 : decode cX4_offerPair 42 = .ok (.aload 4, 2) := by decide +kernel
theorem dX4_offerPair_44 : decode cX4_offerPair 44 = .ok (.aload 5, 2) := by decide +kernel
theorem dX4_offerPair_46 : decode cX4_offerPair 46 = .ok (.aload_n 0, 1) := by decide +kernel
theorem dX4_offerPair_47 : decode cX4_offerPair 47 = .ok (.getfield 58, 3) := by decide +kernel
theorem dX4_offerPair_50 : decode cX4_offerPair 50 = .ok (.aload_n 0, 1) := by decide +kernel
theorem dX4_offerPair_51 : decode cX4_offerPair 51 = .ok (.getfield 62, 3) := by decide +kernel
theorem dX4_offerPair_54 : decode cX4_offerPair 54 = .ok (.invokestatic 79, 3) := by decide +kernel
theorem dX4_offerPair_57 : decode cX4_offerPair 57 = .ok (.ifCond .eq 15, 3) := by decide +kernel
theorem dX4_offerPair_60 : decode cX4_offerPair 60 = .ok (.aload_n 0, 1) := by decide +kernel
theorem dX4_offerPair_61 : decode cX4_offerPair 61 = .ok (.aload 4, 2) := by decide +kernel
theorem dX4_offerPair_63 : decode cX4_offerPair 63 = .ok (.putfield 58, 3) := by decide +kernel
theorem dX4_offerPair_66 : decode cX4_offerPair 66 = .ok (.aload_n 0, 1) := by decide +kernel
theorem dX4_offerPair_67 : decode cX4_offerPair 67 = .ok (.aload 5, 2) := by decide +kernel
theorem dX4_offerPair_69 : decode cX4_offerPair 69 = .ok (.putfield 62, 3) := by decide +kernel
theorem dX4_offerPair_72 : decode cX4_offerPair 72 = .ok (.return_, 1) := by decide +kernel
set_option maxRecDepth 20000 in
theorem ggX4_isPairAhead_X3_isAheadOf : GoodIn wsX4_isPairAhead wsX3_isAheadOf := goodIn_r _ [6, 7, 8, 9, 10, 11, 12, 13, 14, 15] (by decide +kernel) (by decide +kernel)
set_option maxRecDepth 20000 in
theorem gX4_isPairAhead_X3_isAheadOf : GoodIn wsX4_isPairAhead (wsV RX4 75 RX3 yX3_isAheadOf wsX3_isAheadOf) := goodIn_app (goodIn_of _ (by decide +kernel)) ggX4_isPairAhead_X3_isAheadOf
theorem dX4_isPairAhead_0 : decode cX4_isPairAhead 0 = .ok (.aload_n 0, 1) := by decide +kernel
theorem dX4_isPairAhead_1 : decode cX4_isPairAhead 1 = .ok (.getfield 83, 3) := by decide +kernel
theorem dX4_isPairAhead_4 : decode cX4_isPairAhead 4 = .ok (.aload_n 1, 1) := by decide +kernel
theorem dX4_isPairAhead_5 : decode cX4_isPairAhead 5 = .ok (.getfield 83, 3) := by decide +kernel
theorem dX4_isPairAhead_8 : decode cX4_isPairAhead 8 = .ok (.iadd, 1) := by decide +kernel
theorem dX4_isPairAhead_9 : decode cX4_isPairAhead 9 = .ok (.aload_n 2, 1) := by decide +kernel
theorem dX4_isPairAhead_10 : decode cX4_isPairAhead 10 = .ok (.getfield 83, 3) := by decide +kernel
theorem dX4_isPairAhead_13 : decode cX4_isPairAhead 13 = .ok (.isub, 1) := by decide +kernel
theorem dX4_isPairAhead_14 : decode cX4_isPairAhead 14 = .ok (.aload_n 3, 1) := by decide +kernel
theorem dX4_isPairAhead_15 : decode cX4_isPairAhead 15 = .ok (.getfield 83, 3) := by decide +kernel
theorem dX4_isPairAhead_18 : decode cX4_isPairAhead 18 = .ok (.isub, 1) := by decide +kernel
theorem dX4_isPairAhead_19 : decode cX4_isPairAhead 19 = .ok (.istore 4, 2) := by decide +kernel
theorem dX4_isPairAhead_21 : decode cX4_isPairAhead 21 = .ok (.iload 4, 2) := by decide +kernel
theorem dX4_isPairAhead_23 : decode cX4_isPairAhead 23 = .ok (.ifCond .eq 14, 3) := by decide +kernel
theorem dX4_isPairAhead_26 : decode cX4_isPairAhead 26 = .ok (.iload 4, 2) := by decide +kernel
theorem dX4_isPairAhead_28 : decode cX4_isPairAhead 28 = .ok (.ifCond .ge 7, 3) := by decide +kernel
theorem dX4_isPairAhead_31 : decode cX4_isPairAhead 31 = .ok (.iconst 1, 1) := by decide +kernel
theorem dX4_isPairAhead_32 : decode cX4_isPairAhead 32 = .ok (.goto 4, 3) := by decide +kernel
theorem dX4_isPairAhead_35 : decode cX4_isPairAhead 35 = .ok (.iconst 0, 1) := by decide +kernel
theorem dX4_isPairAhead_36 : decode cX4_isPairAhead 36 = .ok (.ireturn, 1) := by decide +kernel
theorem dX4_isPairAhead_37 : decode cX4_isPairAhead 37 = .ok (.aload_n 0, 1) := by decide +kernel
theorem dX4_isPairAhead_38 : decode cX4_isPairAhead 38 = .ok (.aload_n 2, 1) := by decide +kernel
theorem dX4_isPairAhead_39 : decode cX4_isPairAhead 39 = .ok (.invokevirtual 75, 3) := by decide +kernel
theorem dX4_isPairAhead_42 : decode cX4_isPairAhead 42 = .ok (.ifCond .ne 16, 3) := by decide +kernel
theorem dX4_isPairAhead_45 : decode cX4_isPairAhead 45 = .ok (.aload_n 0, 1) := by decide +kernel
theorem dX4_isPairAhead_46 : decode cX4_isPairAhead 46 = .ok (.aload_n 2, 1) := by decide +kernel
theorem dX4_isPairAhead_47 : decode cX4_isPairAhead 47 = .ok (.if_acmp .ne 15, 3) := by decide +kernel
theorem dX4_isPairAhead_50 : decode cX4_isPairAhead 50 = .ok (.aload_n 1, 1) := by decide +kernel
theorem dX4_isPairAhead_51 : decode cX4_isPairAhead 51 = .ok (.aload_n 3, 1) := by decide +kernel
theorem dX4_isPairAhead_52 : decode cX4_isPairAhead 52 = .ok (.invokevirtual 75, 3) := by decide +kernel
theorem dX4_isPairAhead_55 : decode cX4_isPairAhead 55 = .ok (.ifCond .eq 7, 3) := by decide +kernel
theorem dX4_isPairAhead_58 : decode cX4_isPairAhead 58 = .ok (.iconst 1, 1) := by decide +kernel
theorem dX4_isPairAhead_59 : decode cX4_isPairAhead 59 = .ok (.goto 4, 3) := by decide +kernel
theorem dX4_isPairAhead_62 : decode cX4_isPairAhead 62 = .ok (.iconst 0, 1) := by decide +kernel
theorem dX4_isPairAhead_63 : decode cX4_isPairAhead 63 = .ok (.ireturn, 1) := by decide +kernel
set_option maxRecDepth 20000 in
theorem ggX4_pickFirst_X3_isAheadOf : GoodIn wsX4_pickFirst wsX3_isAheadOf := goodIn_r _ [9, 10, 11, 12, 13, 27, 28, 29, 30, 31] (by decide +kernel) (by decide +kernel)
set_option maxRecDepth 20000 in
theorem gX4_pickFirst_X3_isAheadOf : GoodIn wsX4_pickFirst (wsV RX4 75 RX3 yX3_isAheadOf wsX3_isAheadOf) := goodIn_app (goodIn_of _ (by decide +kernel)) ggX4_pickFirst_X3_isAheadOf
theorem dX4_pickFirst_0 : decode cX4_pickFirst 0 = .ok (.aload_n 0, 1) := by decide +kernel
theorem dX4_pickFirst_1 : decode cX4_pickFirst 1 = .ok (.aconst_null, 1) := by decide +kernel
theorem dX4_pickFirst_2 : decode cX4_pickFirst 2 = .ok (.putfield 58, 3) := by decide +kernel
theorem dX4_pickFirst_5 : decode cX4_pickFirst 5 = .ok (.aload_n 0, 1) := by decide +kernel
theorem dX4_pickFirst_6 : decode cX4_pickFirst 6 = .ok (.aconst_null, 1) := by decide +kernel
theorem dX4_pickFirst_7 : decode cX4_pickFirst 7 = .ok (.putfield 62, 3) := by decide +kernel
theorem dX4_pickFirst_10 : decode cX4_pickFirst 10 = .ok (.iconst 0, 1) := by decide +kernel
theorem dX4_pickFirst_11 : decode cX4_pickFirst 11 = .ok (.istore_n 1, 1) := by decide +kernel
theorem dX4_pickFirst_12 : decode cX4_pickFirst 12 = .ok (.iload_n 1, 1) := by decide +kernel
theorem dX4_pickFirst_13 : decode cX4_pickFirst 13 = .ok (.aload_n 0, 1) := by decide +kernel
theorem dX4_pickFirst_14 : decode cX4_pickFirst 14 = .ok (.getfield 65, 3) := by decide +kernel
theorem dX4_pickFirst_17 : decode cX4_pickFirst 17 = .ok (.if_icmp .ge 42, 3) := by decide +kernel
theorem dX4_pickFirst_20 : decode cX4_pickFirst 20 = .ok (.aload_n 0, 1) := by decide +kernel
theorem dX4_pickFirst_21 : decode cX4_pickFirst 21 = .ok (.getfield 58, 3) := by decide +kernel
theorem dX4_pickFirst_24 : decode cX4_pickFirst 24 = .ok (.ifnull 19, 3) := by decide +kernel
theorem dX4_pickFirst_27 : decode cX4_pickFirst 27 = .ok (.aload_n 0, 1) := by decide +kernel
theorem dX4_pickFirst_28 : decode cX4_pickFirst 28 = .ok (.getfield 32, 3) := by decide +kernel
theorem dX4_pickFirst_31 : decode cX4_pickFirst 31 = .ok (.iload_n 1, 1) := by decide +kernel
theorem dX4_pickFirst_32 : decode cX4_pickFirst 32 = .ok (.aaload, 1) := by decide +kernel
theorem dX4_pickFirst_33 : decode cX4_pickFirst 33 = .ok (.aload_n 0, 1) := by decide +kernel
theorem dX4_pickFirst_34 : decode cX4_pickFirst 34 = .ok (.getfield 58, 3) := by decide +kernel
theorem dX4_pickFirst_37 : decode cX4_pickFirst 37 = .ok (.invokevirtual 75, 3) := by decide +kernel
theorem dX4_pickFirst_40 : decode cX4_pickFirst 40 = .ok (.ifCond .eq 13, 3) := by decide +kernel
theorem dX4_pickFirst_43 : decode cX4_pickFirst 43 = .ok (.aload_n 0, 1) := by decide +kernel
theorem dX4_pickFirst_44 : decode cX4_pickFirst 44 = .ok (.aload_n 0, 1) := by decide +kernel
theorem dX4_pickFirst_45 : decode cX4_pickFirst 45 = .ok (.getfield 32, 3) := by decide +kernel
theorem dX4_pickFirst_48 : decode cX4_pickFirst 48 = .ok (.iload_n 1, 1) := by decide +kernel
theorem dX4_pickFirst_49 : decode cX4_pickFirst 49 = .ok (.aaload, 1) := by decide +kernel
theorem dX4_pickFirst_50 : decode cX4_pickFirst 50 = .ok (.putfield 58, 3) := by decide +kernel
theorem dX4_pickFirst_53 : decode cX4_pickFirst 53 = .ok (.iinc 1 1, 3) := by decide +kernel
theorem dX4_pickFirst_56 : decode cX4_pickFirst 56 = .ok (.goto (-44), 3) := by decide +kernel
theorem dX4_pickFirst_59 : decode cX4_pickFirst 59 = .ok (.return_, 1) := by decide +kernel
theorem dX4_aim_0 : decode cX4_aim 0 = .ok (.aload_n 0, 1) := by decide +kernel
theorem dX4_aim_1 : decode cX4_aim 1 = .ok (.iload_n 1, 1) := by decide +kernel
theorem dX4_aim_2 : decode cX4_aim 2 = .ok (.putfield 86, 3) := by decide +kernel
theorem dX4_aim_5 : decode cX4_aim 5 = .ok (.aload_n 0, 1) := by decide +kernel
theorem dX4_aim_6 : decode cX4_aim 6 = .ok (.iload_n 2, 1) := by decide +kernel
theorem dX4_aim_7 : decode cX4_aim 7 = .ok (.putfield 89, 3) := by decide +kernel
theorem dX4_aim_10 : decode cX4_aim 10 = .ok (.aload_n 0, 1) := by decide +kernel
theorem dX4_aim_11 : decode cX4_aim 11 = .ok (.iload_n 3, 1) := by decide +kernel
theorem dX4_aim_12 : decode cX4_aim 12 = .ok (.putfield 92, 3) := by decide +kernel
theorem dX4_aim_15 : decode cX4_aim 15 = .ok (.aload_n 0, 1) := by decide +kernel
theorem dX4_aim_16 : decode cX4_aim 16 = .ok (.iconst 0, 1) := by decide +kernel
theorem dX4_aim_17 : decode cX4_aim 17 = .ok (.putfield 65, 3) := by decide +kernel
theorem dX4_aim_20 : decode cX4_aim 20 = .ok (.return_, 1) := by decide +kernel
set_option maxRecDepth 20000 in
theorem ggX4_walk_X4_keep : GoodIn wsX4_walk wsX4_keep := goodIn_r _ [13, 14, 15, 16, 17, 18, 19, 12, 20, 7, 21, 22, 23, 24, 8, 25, 26, 27, 28, 29, 30, 31, 32, 33, 34, 35, 36, 37, 38, 6, 39, 40, 41, 42, 43, 44, 45, 66, 67, 68, 69, 70, 71, 72, 73, 74, 75, 76, 77, 78, 79, 80, 81, 82, 83] (by decide +kernel) (by decide +kernel)
set_option maxRecDepth 20000 in
theorem gX4_walk_X4_keep : GoodIn wsX4_walk (wsV RX4 93 RX4 yX4_keep wsX4_keep) := goodIn_app (goodIn_of _ (by decide +kernel)) ggX4_walk_X4_keep
set_option maxRecDepth 20000 in
theorem ggX4_walk_X2_acrossFrom : GoodIn wsX4_walk wsX2_acrossFrom := goodIn_r _ [50, 51, 52, 53, 54, 55, 49, 56, 57, 84, 85, 86, 87, 88, 89, 90, 91] (by decide +kernel) (by decide +kernel)
set_option maxRecDepth 20000 in
theorem gX4_walk_X2_acrossFrom : GoodIn wsX4_walk (wsV RX4 97 RX2 yX2_acrossFrom wsX2_acrossFrom) := goodIn_app (goodIn_of _ (by decide +kernel)) ggX4_walk_X2_acrossFrom
set_option maxRecDepth 20000 in
theorem ggX4_walk_X2_lengthOf : GoodIn wsX4_walk wsX2_lengthOf := goodIn_r _ [61, 62, 53, 54, 55, 49, 56, 57, 84, 85, 86, 87, 88, 89, 90, 91] (by decide +kernel) (by decide +kernel)
set_option maxRecDepth 20000 in
theorem gX4_walk_X2_lengthOf : GoodIn wsX4_walk (wsV RX4 101 RX2 yX2_lengthOf wsX2_lengthOf) := goodIn_app (goodIn_of _ (by decide +kernel)) ggX4_walk_X2_lengthOf
set_option maxRecDepth 20000 in
theorem ggX4_walk_X4_walk : GoodIn wsX4_walk wsX4_walk := goodIn_r _ [0, 1, 2, 3, 4, 5, 6, 7, 8, 9, 10, 11, 12, 13, 14, 15, 16, 17, 18, 19, 20, 21, 22, 23, 24, 25, 26, 27, 28, 29, 30, 31, 32, 33, 34, 35, 36, 37, 38, 39, 40, 41, 42, 43, 44, 45, 46, 47, 48, 49, 50, 51, 52, 53, 54, 55, 56, 57, 58, 59, 60, 61, 62, 63, 64, 65, 66, 67, 68, 69, 70, 71, 72, 73, 74, 75, 76, 77, 78, 79, 80, 81, 82, 83, 84, 85, 86, 87, 88, 89, 90, 91] (by decide +kernel) (by decide +kernel)
set_option maxRecDepth 20000 in
theorem gX4_walk_X4_walk : GoodIn wsX4_walk (wsV RX4 51 RX4 yX4_walk wsX4_walk) := goodIn_app (goodIn_of _ (by decide +kernel)) ggX4_walk_X4_walk
theorem dX4_walk_0 : decode cX4_walk 0 = .ok (.iload_n 1, 1) := by decide +kernel
theorem dX4_walk_1 : decode cX4_walk 1 = .ok (.aload_n 0, 1) := by decide +kernel
theorem dX4_walk_2 : decode cX4_walk 2 = .ok (.getfield 86, 3) := by decide +kernel
theorem dX4_walk_5 : decode cX4_walk 5 = .ok (.if_icmp .ne 12, 3) := by decide +kernel
theorem dX4_walk_8 : decode cX4_walk 8 = .ok (.aload_n 0, 1) := by decide +kernel
theorem dX4_walk_9 : decode cX4_walk 9 = .ok (.iload 4, 2) := by decide +kernel
theorem dX4_walk_11 : decode cX4_walk 11 = .ok (.iload 5, 2) := by decide +kernel
theorem dX4_walk_13 : decode cX4_walk 13 = .ok (.invokevirtual 93, 3) := by decide +kernel
theorem dX4_walk_16 : decode cX4_walk 16 = .ok (.return_, 1) := by decide +kernel
theorem dX4_walk_17 : decode cX4_walk 17 = .ok (.iload 4, 2) := by decide +kernel
theorem dX4_walk_19 : decode cX4_walk 19 = .ok (.bipush 7, 2) := by decide +kernel
theorem dX4_walk_21 : decode cX4_walk 21 = .ok (.if_icmp .lt 4, 3) := by decide +kernel
theorem dX4_walk_24 : decode cX4_walk 24 = .ok (.return_, 1) := by decide +kernel
theorem dX4_walk_25 : decode cX4_walk 25 = .ok (.aload_n 0, 1) := by decide +kernel
theorem dX4_walk_26 : decode cX4_walk 26 = .ok (.getfield 92, 3) := by decide +kernel
theorem dX4_walk_29 : decode cX4_walk 29 = .ok (.iload_n 1, 1) := by decide +kernel
theorem dX4_walk_30 : decode cX4_walk 30 = .ok (.ishr, 1) := by decide +kernel
theorem dX4_walk_31 : decode cX4_walk 31 = .ok (.iconst 1, 1) := by decide +kernel
theorem dX4_walk_32 : decode cX4_walk 32 = .ok (.iand, 1) := by decide +kernel
theorem dX4_walk_33 : decode cX4_walk 33 = .ok (.ifCond .eq 7, 3) := by decide +kernel
theorem dX4_walk_36 : decode cX4_walk 36 = .ok (.iconst 1, 1) := by decide +kernel
theorem dX4_walk_37 : decode cX4_walk 37 = .ok (.goto 4, 3) := by decide +kernel
theorem dX4_walk_40 : decode cX4_walk 40 = .ok (.iconst 0, 1) := by decide +kernel
theorem dX4_walk_41 : decode cX4_walk 41 = .ok (.istore 6, 2) := by decide +kernel
theorem dX4_walk_43 : decode cX4_walk 43 = .ok (.iconst 0, 1) := by decide +kernel
theorem dX4_walk_44 : decode cX4_walk 44 = .ok (.istore 7, 2) := by decide +kernel
theorem dX4_walk_46 : decode cX4_walk 46 = .ok (.iload 7, 2) := by decide +kernel
theorem dX4_walk_48 : decode cX4_walk 48 = .ok (.bipush 14, 2) := by decide +kernel
theorem dX4_walk_50 : decode cX4_walk 50 = .ok (.if_icmp .ge 127, 3) := by decide +kernel
theorem dX4_walk_53 : decode cX4_walk 53 = .ok (.aload_n 0, 1) := by decide +kernel
theorem dX4_walk_54 : decode cX4_walk 54 = .ok (.getfield 36, 3) := by decide +kernel
theorem dX4_walk_57 : decode cX4_walk 57 = .ok (.iload_n 1, 1) := by decide +kernel
theorem dX4_walk_58 : decode cX4_walk 58 = .ok (.iload 7, 2) := by decide +kernel
theorem dX4_walk_60 : decode cX4_walk 60 = .ok (.invokevirtual 97, 3) := by decide +kernel
theorem dX4_walk_63 : decode cX4_walk 63 = .ok (.istore 8, 2) := by decide +kernel
theorem dX4_walk_65 : decode cX4_walk 65 = .ok (.aload_n 0, 1) := by decide +kernel
theorem dX4_walk_66 : decode cX4_walk 66 = .ok (.getfield 9, 3) := by decide +kernel
theorem dX4_walk_69 : decode cX4_walk 69 = .ok (.iload 7, 2) := by decide +kernel
theorem dX4_walk_71 : decode cX4_walk 71 = .ok (.iaload, 1) := by decide +kernel
theorem dX4_walk_72 : decode cX4_walk 72 = .ok (.aload_n 0, 1) := by decide +kernel
theorem dX4_walk_73 : decode cX4_walk 73 = .ok (.getfield 89, 3) := by decide +kernel
theorem dX4_walk_76 : decode cX4_walk 76 = .ok (.iand, 1) := by decide +kernel
theorem dX4_walk_77 : decode cX4_walk 77 = .ok (.istore 9, 2) := by decide +kernel
theorem dX4_walk_79 : decode cX4_walk 79 = .ok (.iload 6, 2) := by decide +kernel
theorem dX4_walk_81 : decode cX4_walk 81 = .ok (.ifCond .eq 8, 3) := by decide +kernel
theorem dX4_walk_84 : decode cX4_walk 84 = .ok (.iload 9, 2) := by decide +kernel
theorem dX4_walk_86 : decode cX4_walk 86 = .ok (.goto 7, 3) := by decide +kernel
theorem dX4_walk_89 : decode cX4_walk 89 = .ok (.iload 9, 2) := by decide +kernel
theorem dX4_walk_91 : decode cX4_walk 91 = .ok (.iload_n 3, 1) := by decide +kernel
theorem dX4_walk_92 : decode cX4_walk 92 = .ok (.iand, 1) := by decide +kernel
theorem dX4_walk_93 : decode cX4_walk 93 = .ok (.istore 10, 2) := by decide +kernel
theorem dX4_walk_95 : decode cX4_walk 95 = .ok (.iload 8, 2) := by decide +kernel
theorem dX4_walk_97 : decode cX4_walk 97 = .ok (.ifCond .lt 74, 3) := by decide +kernel
theorem dX4_walk_100 : decode cX4_walk 100 = .ok (.iload_n 2, 1) := by decide +kernel
theorem dX4_walk_101 : decode cX4_walk 101 = .ok (.iload 8, 2) := by decide +kernel
theorem dX4_walk_103 : decode cX4_walk 103 = .ok (.ishr, 1) := by decide +kernel
theorem dX4_walk_104 : decode cX4_walk 104 = .ok (.iconst 1, 1) := by decide +kernel
theorem dX4_walk_105 : decode cX4_walk 105 = .ok (.iand, 1) := by decide +kernel
theorem dX4_walk_106 : decode cX4_walk 106 = .ok (.ifCond .ne 65, 3) := by decide +kernel
theorem dX4_walk_109 : decode cX4_walk 109 = .ok (.iload 10, 2) := by decide +kernel
theorem dX4_walk_111 : decode cX4_walk 111 = .ok (.ifCond .eq 60, 3) := by decide +kernel
theorem dX4_walk_114 : decode cX4_walk 114 = .ok (.aload_n 0, 1) := by decide +kernel
theorem dX4_walk_115 : decode cX4_walk 115 = .ok (.getfield 15, 3) := by decide +kernel
theorem dX4_walk_118 : decode cX4_walk 118 = .ok (.iload 4, 2) := by decide +kernel
theorem dX4_walk_120 : decode cX4_walk 120 = .ok (.iload 7, 2) := by decide +kernel
theorem dX4_walk_122 : decode cX4_walk 122 = .ok (.iastore, 1) := by decide +kernel
theorem dX4_walk_123 : decode cX4_walk 123 = .ok (.aload_n 0, 1) := by decide +kernel
theorem dX4_walk_124 : decode cX4_walk 124 = .ok (.getfield 18, 3) := by decide +kernel
theorem dX4_walk_127 : decode cX4_walk 127 = .ok (.iload 4, 2) := by decide +kernel
theorem dX4_walk_129 : decode cX4_walk 129 = .ok (.iload 9, 2) := by decide +kernel
theorem dX4_walk_131 : decode cX4_walk 131 = .ok (.iastore, 1) := by decide +kernel
theorem dX4_walk_132 : decode cX4_walk 132 = .ok (.aload_n 0, 1) := by decide +kernel
theorem dX4_walk_133 : decode cX4_walk 133 = .ok (.getfield 21, 3) := by decide +kernel
theorem dX4_walk_136 : decode cX4_walk 136 = .ok (.iload 4, 2) := by decide +kernel
theorem dX4_walk_138 : decode cX4_walk 138 = .ok (.iload 6, 2) := by decide +kernel
theorem dX4_walk_140 : decode cX4_walk 140 = .ok (.bastore, 1) := by decide +kernel
theorem dX4_walk_141 : decode cX4_walk 141 = .ok (.aload_n 0, 1) := by decide +kernel
theorem dX4_walk_142 : decode cX4_walk 142 = .ok (.iload 8, 2) := by decide +kernel
theorem dX4_walk_144 : decode cX4_walk 144 = .ok (.iload_n 2, 1) := by decide +kernel
theorem dX4_walk_145 : decode cX4_walk 145 = .ok (.iconst 1, 1) := by decide +kernel
theorem dX4_walk_146 : decode cX4_walk 146 = .ok (.iload 8, 2) := by decide +kernel
theorem dX4_walk_148 : decode cX4_walk 148 = .ok (.ishl, 1) := by decide +kernel
theorem dX4_walk_149 : decode cX4_walk 149 = .ok (.ior, 1) := by decide +kernel
theorem dX4_walk_150 : decode cX4_walk 150 = .ok (.iload 10, 2) := by decide +kernel
theorem dX4_walk_152 : decode cX4_walk 152 = .ok (.iload 4, 2) := by decide +kernel
theorem dX4_walk_154 : decode cX4_walk 154 = .ok (.iconst 1, 1) := by decide +kernel
theorem dX4_walk_155 : decode cX4_walk 155 = .ok (.iadd, 1) := by decide +kernel
theorem dX4_walk_156 : decode cX4_walk 156 = .ok (.iload 5, 2) := by decide +kernel
theorem dX4_walk_158 : decode cX4_walk 158 = .ok (.aload_n 0, 1) := by decide +kernel
theorem dX4_walk_159 : decode cX4_walk 159 = .ok (.getfield 36, 3) := by decide +kernel
theorem dX4_walk_162 : decode cX4_walk 162 = .ok (.iload 7, 2) := by decide +kernel
theorem dX4_walk_164 : decode cX4_walk 164 = .ok (.invokevirtual 101, 3) := by decide +kernel
theorem dX4_walk_167 : decode cX4_walk 167 = .ok (.iadd, 1) := by decide +kernel
theorem dX4_walk_168 : decode cX4_walk 168 = .ok (.invokevirtual 51, 3) := by decide +kernel
theorem dX4_walk_171 : decode cX4_walk 171 = .ok (.iinc 7 1, 3) := by decide +kernel
theorem dX4_walk_174 : decode cX4_walk 174 = .ok (.goto (-128), 3) := by decide +kernel
theorem dX4_walk_177 : decode cX4_walk 177 = .ok (.return_, 1) := by decide +kernel
set_option maxRecDepth 20000 in
theorem ggX4_keep_X4_countConversionsBackwards : GoodIn wsX4_keep wsX4_countConversionsBackwards := goodIn_r _ [8, 2, 9, 10, 11, 12, 7, 13, 14, 37, 38, 39, 40, 41, 42, 43, 44, 45, 46, 47, 48, 49] (by decide +kernel) (by decide +kernel)
set_option maxRecDepth 20000 in
theorem gX4_keep_X4_countConversionsBackwards : GoodIn wsX4_keep (wsV RX4 105 RX4 yX4_countConversionsBackwards wsX4_countConversionsBackwards) := goodIn_app (goodIn_of _ (by decide +kernel)) ggX4_keep_X4_countConversionsBackwards
set_option maxRecDepth 20000 in
theorem ggX4_keep_X3_start : GoodIn wsX4_keep wsX3_start := goodIn_r _ [19, 20, 21, 22, 23, 24, 50, 51, 52, 53, 54] (by decide +kernel) (by decide +kernel)
set_option maxRecDepth 20000 in
theorem gX4_keep_X3_start : GoodIn wsX4_keep (wsV RX4 109 RX3 yX3_start wsX3_start) := goodIn_app (goodIn_of _ (by decide +kernel)) ggX4_keep_X3_start
set_option maxRecDepth 20000 in
theorem ggX4_keep_X4_takeLowestWavelengths : GoodIn wsX4_keep wsX4_takeLowestWavelengths := goodIn_r _ [28, 2, 29, 14, 30, 31, 32, 33, 34, 35, 18, 36, 24, 23, 20, 37, 38, 39, 40, 41, 42, 43, 44, 45, 46, 47, 48, 49, 50, 51, 52, 53, 54] (by decide +kernel) (by decide +kernel)
set_option maxRecDepth 20000 in
theorem gX4_keep_X4_takeLowestWavelengths : GoodIn wsX4_keep (wsV RX4 112 RX4 yX4_takeLowestWavelengths wsX4_takeLowestWavelengths) := goodIn_app (goodIn_of _ (by decide +kernel)) ggX4_keep_X4_takeLowestWavelengths
theorem dX4_keep_0 : decode cX4_keep 0 = .ok (.aload_n 0, 1) := by decide +kernel
theorem dX4_keep_1 : decode cX4_keep 1 = .ok (.getfield 65, 3) := by decide +kernel
theorem dX4_keep_4 : decode cX4_keep 4 = .ok (.sipush 162, 3) := by decide +kernel
theorem dX4_keep_7 : decode cX4_keep 7 = .ok (.if_icmp .ge 14, 3) := by decide +kernel
theorem dX4_keep_10 : decode cX4_keep 10 = .ok (.iload_n 1, 1) := by decide +kernel
theorem dX4_keep_11 : decode cX4_keep 11 = .ok (.iconst 1, 1) := by decide +kernel
theorem dX4_keep_12 : decode cX4_keep 12 = .ok (.if_icmp .lt 9, 3) := by decide +kernel
theorem dX4_keep_15 : decode cX4_keep 15 = .ok (.iload_n 1, 1) := by decide +kernel
theorem dX4_keep_16 : decode cX4_keep 16 = .ok (.bipush 7, 2) := by decide +kernel
theorem dX4_keep_18 : decode cX4_keep 18 = .ok (.if_icmp .le 4, 3) := by decide +kernel
theorem dX4_keep_21 : decode cX4_keep 21 = .ok (.return_, 1) := by decide +kernel
theorem dX4_keep_22 : decode cX4_keep 22 = .ok (.aload_n 0, 1) := by decide +kernel
theorem dX4_keep_23 : decode cX4_keep 23 = .ok (.iload_n 1, 1) := by decide +kernel
theorem dX4_keep_24 : decode cX4_keep 24 = .ok (.invokevirtual 105, 3) := by decide +kernel
theorem dX4_keep_27 : decode cX4_keep 27 = .ok (.iconst 0, 1) := by decide +kernel
theorem dX4_keep_28 : decode cX4_keep 28 = .ok (.istore_n 3, 1) := by decide +kernel
theorem dX4_keep_29 : decode cX4_keep 29 = .ok (.iload_n 3, 1) := by decide +kernel
theorem dX4_keep_30 : decode cX4_keep 30 = .ok (.iload_n 1, 1) := by decide +kernel
theorem dX4_keep_31 : decode cX4_keep 31 = .ok (.iconst 1, 1) := by decide +kernel
theorem dX4_keep_32 : decode cX4_keep 32 = .ok (.isub, 1) := by decide +kernel
theorem dX4_keep_33 : decode cX4_keep 33 = .ok (.if_icmp .ge 20, 3) := by decide +kernel
theorem dX4_keep_36 : decode cX4_keep 36 = .ok (.aload_n 0, 1) := by decide +kernel
theorem dX4_keep_37 : decode cX4_keep 37 = .ok (.getfield 27, 3) := by decide +kernel
theorem dX4_keep_40 : decode cX4_keep 40 = .ok (.iconst 0, 1) := by decide +kernel
theorem dX4_keep_41 : decode cX4_keep 41 = .ok (.aaload, 1) := by decide +kernel
theorem dX4_keep_42 : decode cX4_keep 42 = .ok (.iload_n 3, 1) := by decide +kernel
theorem dX4_keep_43 : decode cX4_keep 43 = .ok (.iaload, 1) := by decide +kernel
theorem dX4_keep_44 : decode cX4_keep 44 = .ok (.ifCond .ne 9, 3) := by decide +kernel
theorem dX4_keep_47 : decode cX4_keep 47 = .ok (.iinc 3 1, 3) := by decide +kernel
theorem dX4_keep_50 : decode cX4_keep 50 = .ok (.goto (-21), 3) := by decide +kernel
theorem dX4_keep_53 : decode cX4_keep 53 = .ok (.aload_n 0, 1) := by decide +kernel
theorem dX4_keep_54 : decode cX4_keep 54 = .ok (.getfield 32, 3) := by decide +kernel
theorem dX4_keep_57 : decode cX4_keep 57 = .ok (.aload_n 0, 1) := by decide +kernel
theorem dX4_keep_58 : decode cX4_keep 58 = .ok (.getfield 65, 3) := by decide +kernel
theorem dX4_keep_61 : decode cX4_keep 61 = .ok (.aaload, 1) := by decide +kernel
theorem dX4_keep_62 : decode cX4_keep 62 = .ok (.astore 4, 2) := by decide +kernel
theorem dX4_keep_64 : decode cX4_keep 64 = .ok (.aload_n 0, 1) := by decide +kernel
theorem dX4_keep_65 : decode cX4_keep 65 = .ok (.dup, 1) := by decide +kernel
theorem dX4_keep_66 : decode cX4_keep 66 = .ok (.getfield 65, 3) := by decide +kernel
theorem dX4_keep_69 : decode cX4_keep 69 = .ok (.iconst 1, 1) := by decide +kernel
theorem dX4_keep_70 : decode cX4_keep 70 = .ok (.iadd, 1) := by decide +kernel
theorem dX4_keep_71 : decode cX4_keep 71 = .ok (.putfield 65, 3) := by decide +kernel
theorem dX4_keep_74 : decode cX4_keep 74 = .ok (.aload 4, 2) := by decide +kernel
theorem dX4_keep_76 : decode cX4_keep 76 = .ok (.iload_n 2, 1) := by decide +kernel
theorem dX4_keep_77 : decode cX4_keep 77 = .ok (.iload_n 3, 1) := by decide +kernel
theorem dX4_keep_78 : decode cX4_keep 78 = .ok (.invokevirtual 109, 3) := by decide +kernel
theorem dX4_keep_81 : decode cX4_keep 81 = .ok (.aload_n 0, 1) := by decide +kernel
theorem dX4_keep_82 : decode cX4_keep 82 = .ok (.aload 4, 2) := by decide +kernel
theorem dX4_keep_84 : decode cX4_keep 84 = .ok (.iload_n 1, 1) := by decide +kernel
theorem dX4_keep_85 : decode cX4_keep 85 = .ok (.iload_n 3, 1) := by decide +kernel
theorem dX4_keep_86 : decode cX4_keep 86 = .ok (.invokevirtual 112, 3) := by decide +kernel
theorem dX4_keep_89 : decode cX4_keep 89 = .ok (.return_, 1) := by decide +kernel
set_option maxRecDepth 20000 in
theorem ggX4_takeLowestWavelengths_X5_lowestIn : GoodIn wsX4_takeLowestWavelengths wsX5_lowestIn := goodIn_r _ [6] (by decide +kernel) (by decide +kernel)
set_option maxRecDepth 20000 in
theorem gX4_takeLowestWavelengths_X5_lowestIn_n116 : GoodIn wsX4_takeLowestWavelengths (wsX5_lowestIn) := ggX4_takeLowestWavelengths_X5_lowestIn
set_option maxRecDepth 20000 in
theorem ggX4_takeLowestWavelengths_X3_append : GoodIn wsX4_takeLowestWavelengths wsX3_append := goodIn_r _ [11, 12, 13, 14, 28, 29, 30, 31, 32] (by decide +kernel) (by decide +kernel)
set_option maxRecDepth 20000 in
theorem gX4_takeLowestWavelengths_X3_append : GoodIn wsX4_takeLowestWavelengths (wsV RX4 119 RX3 yX3_append wsX3_append) := goodIn_app (goodIn_of _ (by decide +kernel)) ggX4_takeLowestWavelengths_X3_append
theorem dX4_takeLowestWavelengths_0 : decode cX4_takeLowestWavelengths 0 = .ok (.iload_n 3, 1) := by decide +kernel
theorem dX4_takeLowestWavelengths_1 : decode cX4_takeLowestWavelengths 1 = .ok (.istore 4, 2) := by decide +kernel
theorem dX4_takeLowestWavelengths_3 : decode cX4_takeLowestWavelengths 3 = .ok (.aload_n 0, 1) := by decide +kernel
theorem dX4_takeLowestWavelengths_4 : decode cX4_takeLowestWavelengths 4 = .ok (.getfield 27, 3) := by decide +kernel
theorem dX4_takeLowestWavelengths_7 : decode cX4_takeLowestWavelengths 7 = .ok (.iconst 0, 1) := by decide +kernel
theorem dX4_takeLowestWavelengths_8 : decode cX4_takeLowestWavelengths 8 = .ok (.aaload, 1) := by decide +kernel
theorem dX4_takeLowestWavelengths_9 : decode cX4_takeLowestWavelengths 9 = .ok (.iload 4, 2) := by decide +kernel
theorem dX4_takeLowestWavelengths_11 : decode cX4_takeLowestWavelengths 11 = .ok (.iaload, 1) := by decide +kernel
theorem dX4_takeLowestWavelengths_12 : decode cX4_takeLowestWavelengths 12 = .ok (.invokestatic 116, 3) := by decide +kernel
theorem dX4_takeLowestWavelengths_15 : decode cX4_takeLowestWavelengths 15 = .ok (.istore 5, 2) := by decide +kernel
theorem dX4_takeLowestWavelengths_17 : decode cX4_takeLowestWavelengths 17 = .ok (.aload_n 1, 1) := by decide +kernel
theorem dX4_takeLowestWavelengths_18 : decode cX4_takeLowestWavelengths 18 = .ok (.aload_n 0, 1) := by decide +kernel
theorem dX4_takeLowestWavelengths_19 : decode cX4_takeLowestWavelengths 19 = .ok (.getfield 15, 3) := by decide +kernel
theorem dX4_takeLowestWavelengths_22 : decode cX4_takeLowestWavelengths 22 = .ok (.iconst 0, 1) := by decide +kernel
theorem dX4_takeLowestWavelengths_23 : decode cX4_takeLowestWavelengths 23 = .ok (.iaload, 1) := by decide +kernel
theorem dX4_takeLowestWavelengths_24 : decode cX4_takeLowestWavelengths 24 = .ok (.iload 5, 2) := by decide +kernel
theorem dX4_takeLowestWavelengths_26 : decode cX4_takeLowestWavelengths 26 = .ok (.invokevirtual 119, 3) := by decide +kernel
theorem dX4_takeLowestWavelengths_29 : decode cX4_takeLowestWavelengths 29 = .ok (.iconst 1, 1) := by decide +kernel
theorem dX4_takeLowestWavelengths_30 : decode cX4_takeLowestWavelengths 30 = .ok (.istore 6, 2) := by decide +kernel
theorem dX4_takeLowestWavelengths_32 : decode cX4_takeLowestWavelengths 32 = .ok (.iload 6, 2) := by decide +kernel
theorem dX4_takeLowestWavelengths_34 : decode cX4_takeLowestWavelengths 34 = .ok (.iload_n 2, 1) := by decide +kernel
theorem dX4_takeLowestWavelengths_35 : decode cX4_takeLowestWavelengths 35 = .ok (.if_icmp .ge 110, 3) := by decide +kernel
theorem dX4_takeLowestWavelengths_38 : decode cX4_takeLowestWavelengths 38 = .ok (.iload 4, 2) := by decide +kernel
theorem dX4_takeLowestWavelengths_40 : decode cX4_takeLowestWavelengths 40 = .ok (.ifCond .le 17, 3) := by decide +kernel
theorem dX4_takeLowestWavelengths_43 : decode cX4_takeLowestWavelengths 43 = .ok (.aload_n 0, 1) := by decide +kernel
theorem dX4_takeLowestWavelengths_44 : decode cX4_takeLowestWavelengths 44 = .ok (.getfield 21, 3) := by decide +kernel
theorem dX4_takeLowestWavelengths_47 : decode cX4_takeLowestWavelengths 47 = .ok (.iload 6, 2) := by decide +kernel
theorem dX4_takeLowestWavelengths_49 : decode cX4_takeLowestWavelengths 49 = .ok (.baload, 1) := by decide +kernel
theorem dX4_takeLowestWavelengths_50 : decode cX4_takeLowestWavelengths 50 = .ok (.ifCond .eq 7, 3) := by decide +kernel
theorem dX4_takeLowestWavelengths_53 : decode cX4_takeLowestWavelengths 53 = .ok (.iconst 1, 1) := by decide +kernel
theorem dX4_takeLowestWavelengths_54 : decode cX4_takeLowestWavelengths 54 = .ok (.goto 4, 3) := by decide +kernel
theorem dX4_takeLowestWavelengths_57 : decode cX4_takeLowestWavelengths 57 = .ok (.iconst 0, 1) := by decide +kernel
theorem dX4_takeLowestWavelengths_58 : decode cX4_takeLowestWavelengths 58 = .ok (.istore 7, 2) := by decide +kernel
theorem dX4_takeLowestWavelengths_60 : decode cX4_takeLowestWavelengths 60 = .ok (.aload_n 0, 1) := by decide +kernel
theorem dX4_takeLowestWavelengths_61 : decode cX4_takeLowestWavelengths 61 = .ok (.getfield 27, 3) := by decide +kernel
theorem dX4_takeLowestWavelengths_64 : decode cX4_takeLowestWavelengths 64 = .ok (.iload 6, 2) := by decide +kernel
theorem dX4_takeLowestWavelengths_66 : decode cX4_takeLowestWavelengths 66 = .ok (.aaload, 1) := by decide +kernel
theorem dX4_takeLowestWavelengths_67 : decode cX4_takeLowestWavelengths 67 = .ok (.iload 4, 2) := by decide +kernel
theorem dX4_takeLowestWavelengths_69 : decode cX4_takeLowestWavelengths 69 = .ok (.iaload, 1) := by decide +kernel
theorem dX4_takeLowestWavelengths_70 : decode cX4_takeLowestWavelengths 70 = .ok (.iconst 1, 1) := by decide +kernel
theorem dX4_takeLowestWavelengths_71 : decode cX4_takeLowestWavelengths 71 = .ok (.iload 5, 2) := by decide +kernel
theorem dX4_takeLowestWavelengths_73 : decode cX4_takeLowestWavelengths 73 = .ok (.ishl, 1) := by decide +kernel
theorem dX4_takeLowestWavelengths_74 : decode cX4_takeLowestWavelengths 74 = .ok (.iand, 1) := by decide +kernel
theorem dX4_takeLowestWavelengths_75 : decode cX4_takeLowestWavelengths 75 = .ok (.istore 8, 2) := by decide +kernel
theorem dX4_takeLowestWavelengths_77 : decode cX4_takeLowestWavelengths 77 = .ok (.iload 7, 2) := by decide +kernel
theorem dX4_takeLowestWavelengths_79 : decode cX4_takeLowestWavelengths 79 = .ok (.ifCond .eq 21, 3) := by decide +kernel
theorem dX4_takeLowestWavelengths_82 : decode cX4_takeLowestWavelengths 82 = .ok (.iload 8, 2) := by decide +kernel
theorem dX4_takeLowestWavelengths_84 : decode cX4_takeLowestWavelengths 84 = .ok (.aload_n 0, 1) := by decide +kernel
theorem dX4_takeLowestWavelengths_85 : decode cX4_takeLowestWavelengths 85 = .ok (.getfield 27, 3) := by decide +kernel
theorem dX4_takeLowestWavelengths_88 : decode cX4_takeLowestWavelengths 88 = .ok (.iload 6, 2) := by decide +kernel
theorem dX4_takeLowestWavelengths_90 : decode cX4_takeLowestWavelengths 90 = .ok (.aaload, 1) := by decide +kernel
theorem dX4_takeLowestWavelengths_91 : decode cX4_takeLowestWavelengths 91 = .ok (.iload 4, 2) := by decide +kernel
theorem dX4_takeLowestWavelengths_93 : decode cX4_takeLowestWavelengths 93 = .ok (.iconst 1, 1) := by decide +kernel
theorem dX4_takeLowestWavelengths_94 : decode cX4_takeLowestWavelengths 94 = .ok (.isub, 1) := by decide +kernel
theorem dX4_takeLowestWavelengths_95 : decode cX4_takeLowestWavelengths 95 = .ok (.iaload, 1) := by decide +kernel
theorem dX4_takeLowestWavelengths_96 : decode cX4_takeLowestWavelengths 96 = .ok (.ior, 1) := by decide +kernel
theorem dX4_takeLowestWavelengths_97 : decode cX4_takeLowestWavelengths 97 = .ok (.goto 5, 3) := by decide +kernel
theorem dX4_takeLowestWavelengths_100 : decode cX4_takeLowestWavelengths 100 = .ok (.iload 8, 2) := by decide +kernel
theorem dX4_takeLowestWavelengths_102 : decode cX4_takeLowestWavelengths 102 = .ok (.invokestatic 116, 3) := by decide +kernel
theorem dX4_takeLowestWavelengths_105 : decode cX4_takeLowestWavelengths 105 = .ok (.istore 9, 2) := by decide +kernel
theorem dX4_takeLowestWavelengths_107 : decode cX4_takeLowestWavelengths 107 = .ok (.iload 7, 2) := by decide +kernel
theorem dX4_takeLowestWavelengths_109 : decode cX4_takeLowestWavelengths 109 = .ok (.ifCond .eq 13, 3) := by decide +kernel
theorem dX4_takeLowestWavelengths_112 : decode cX4_takeLowestWavelengths 112 = .ok (.iload 9, 2) := by decide +kernel
theorem dX4_takeLowestWavelengths_114 : decode cX4_takeLowestWavelengths 114 = .ok (.iload 5, 2) := by decide +kernel
theorem dX4_takeLowestWavelengths_116 : decode cX4_takeLowestWavelengths 116 = .ok (.if_icmp .eq 6, 3) := by decide +kernel
theorem dX4_takeLowestWavelengths_119 : decode cX4_takeLowestWavelengths 119 = .ok (.iinc 4 (-1), 3) := by decide +kernel
theorem dX4_takeLowestWavelengths_122 : decode cX4_takeLowestWavelengths 122 = .ok (.iload 9, 2) := by decide +kernel
theorem dX4_takeLowestWavelengths_124 : decode cX4_takeLowestWavelengths 124 = .ok (.istore 5, 2) := by decide +kernel
theorem dX4_takeLowestWavelengths_126 : decode cX4_takeLowestWavelengths 126 = .ok (.aload_n 1, 1) := by decide +kernel
theorem dX4_takeLowestWavelengths_127 : decode cX4_takeLowestWavelengths 127 = .ok (.aload_n 0, 1) := by decide +kernel
theorem dX4_takeLowestWavelengths_128 : decode cX4_takeLowestWavelengths 128 = .ok (.getfield 15, 3) := by decide +kernel
theorem dX4_takeLowestWavelengths_131 : decode cX4_takeLowestWavelengths 131 = .ok (.iload 6, 2) := by decide +kernel
theorem dX4_takeLowestWavelengths_133 : decode cX4_takeLowestWavelengths 133 = .ok (.iaload, 1) := by decide +kernel
theorem dX4_takeLowestWavelengths_134 : decode cX4_takeLowestWavelengths 134 = .ok (.iload 5, 2) := by decide +kernel
theorem dX4_takeLowestWavelengths_136 : decode cX4_takeLowestWavelengths 136 = .ok (.invokevirtual 119, 3) := by decide +kernel
theorem dX4_takeLowestWavelengths_139 : decode cX4_takeLowestWavelengths 139 = .ok (.iinc 6 1, 3) := by decide +kernel
theorem dX4_takeLowestWavelengths_142 : decode cX4_takeLowestWavelengths 142 = .ok (.goto (-110), 3) := by decide +kernel
theorem dX4_takeLowestWavelengths_145 : decode cX4_takeLowestWavelengths 145 = .ok (.return_, 1) := by decide +kernel
set_option maxRecDepth 20000 in
theorem ggX4_countConversionsBackwards_X4_leadingOn : GoodIn wsX4_countConversionsBackwards wsX4_leadingOn := goodIn_r _ [7, 8, 1, 9, 10, 11, 12, 13, 14, 15, 16, 17, 18, 19, 20, 21] (by decide +kernel) (by decide +kernel)
set_option maxRecDepth 20000 in
theorem gX4_countConversionsBackwards_X4_leadingOn : GoodIn wsX4_countConversionsBackwards (wsV RX4 122 RX4 yX4_leadingOn wsX4_leadingOn) := goodIn_app (goodIn_of _ (by decide +kernel)) ggX4_countConversionsBackwards_X4_leadingOn
theorem dX4_countConversionsBackwards_0 : decode cX4_countConversionsBackwards 0 = .ok (.iload_n 1, 1) := by decide +kernel
theorem dX4_countConversionsBackwards_1 : decode cX4_countConversionsBackwards 1 = .ok (.iconst 1, 1) := by decide +kernel
theorem dX4_countConversionsBackwards_2 : decode cX4_countConversionsBackwards 2 = .ok (.isub, 1) := by decide +kernel
theorem dX4_countConversionsBackwards_3 : decode cX4_countConversionsBackwards 3 = .ok (.istore_n 2, 1) := by decide +kernel
theorem dX4_countConversionsBackwards_4 : decode cX4_countConversionsBackwards 4 = .ok (.iload_n 2, 1) := by decide +kernel
theorem dX4_countConversionsBackwards_5 : decode cX4_countConversionsBackwards 5 = .ok (.ifCond .lt 46, 3) := by decide +kernel
theorem dX4_countConversionsBackwards_8 : decode cX4_countConversionsBackwards 8 = .ok (.iconst 0, 1) := by decide +kernel
theorem dX4_countConversionsBackwards_9 : decode cX4_countConversionsBackwards 9 = .ok (.istore_n 3, 1) := by decide +kernel
theorem dX4_countConversionsBackwards_10 : decode cX4_countConversionsBackwards 10 = .ok (.iload_n 3, 1) := by decide +kernel
theorem dX4_countConversionsBackwards_11 : decode cX4_countConversionsBackwards 11 = .ok (.iload_n 1, 1) := by decide +kernel
theorem dX4_countConversionsBackwards_12 : decode cX4_countConversionsBackwards 12 = .ok (.if_icmp .ge 33, 3) := by decide +kernel
theorem dX4_countConversionsBackwards_15 : decode cX4_countConversionsBackwards 15 = .ok (.aload_n 0, 1) := by decide +kernel
theorem dX4_countConversionsBackwards_16 : decode cX4_countConversionsBackwards 16 = .ok (.getfield 27, 3) := by decide +kernel
theorem dX4_countConversionsBackwards_19 : decode cX4_countConversionsBackwards 19 = .ok (.iload_n 2, 1) := by decide +kernel
theorem dX4_countConversionsBackwards_20 : decode cX4_countConversionsBackwards 20 = .ok (.aaload, 1) := by decide +kernel
theorem dX4_countConversionsBackwards_21 : decode cX4_countConversionsBackwards 21 = .ok (.iload_n 3, 1) := by decide +kernel
theorem dX4_countConversionsBackwards_22 : decode cX4_countConversionsBackwards 22 = .ok (.aload_n 0, 1) := by decide +kernel
theorem dX4_countConversionsBackwards_23 : decode cX4_countConversionsBackwards 23 = .ok (.getfield 18, 3) := by decide +kernel
theorem dX4_countConversionsBackwards_26 : decode cX4_countConversionsBackwards 26 = .ok (.iload_n 2, 1) := by decide +kernel
theorem dX4_countConversionsBackwards_27 : decode cX4_countConversionsBackwards 27 = .ok (.iaload, 1) := by decide +kernel
theorem dX4_countConversionsBackwards_28 : decode cX4_countConversionsBackwards 28 = .ok (.aload_n 0, 1) := by decide +kernel
theorem dX4_countConversionsBackwards_29 : decode cX4_countConversionsBackwards 29 = .ok (.iload_n 2, 1) := by decide +kernel
theorem dX4_countConversionsBackwards_30 : decode cX4_countConversionsBackwards 30 = .ok (.iconst 1, 1) := by decide +kernel
theorem dX4_countConversionsBackwards_31 : decode cX4_countConversionsBackwards 31 = .ok (.iadd, 1) := by decide +kernel
theorem dX4_countConversionsBackwards_32 : decode cX4_countConversionsBackwards 32 = .ok (.iload_n 1, 1) := by decide +kernel
theorem dX4_countConversionsBackwards_33 : decode cX4_countConversionsBackwards 33 = .ok (.iload_n 3, 1) := by decide +kernel
theorem dX4_countConversionsBackwards_34 : decode cX4_countConversionsBackwards 34 = .ok (.invokevirtual 122, 3) := by decide +kernel
theorem dX4_countConversionsBackwards_37 : decode cX4_countConversionsBackwards 37 = .ok (.iand, 1) := by decide +kernel
theorem dX4_countConversionsBackwards_38 : decode cX4_countConversionsBackwards 38 = .ok (.iastore, 1) := by decide +kernel
theorem dX4_countConversionsBackwards_39 : decode cX4_countConversionsBackwards 39 = .ok (.iinc 3 1, 3) := by decide +kernel
theorem dX4_countConversionsBackwards_42 : decode cX4_countConversionsBackwards 42 = .ok (.goto (-32), 3) := by decide +kernel
theorem dX4_countConversionsBackwards_45 : decode cX4_countConversionsBackwards 45 = .ok (.iinc 2 (-1), 3) := by decide +kernel
theorem dX4_countConversionsBackwards_48 : decode cX4_countConversionsBackwards 48 = .ok (.goto (-44), 3) := by decide +kernel
theorem dX4_countConversionsBackwards_51 : decode cX4_countConversionsBackwards 51 = .ok (.return_, 1) := by decide +kernel
theorem dX4_leadingOn_0 : decode cX4_leadingOn 0 = .ok (.iload_n 1, 1) := by decide +kernel
theorem dX4_leadingOn_1 : decode cX4_leadingOn 1 = .ok (.iload_n 2, 1) := by decide +kernel
theorem dX4_leadingOn_2 : decode cX4_leadingOn 2 = .ok (.if_icmp .ge 9, 3) := by decide +kernel
theorem dX4_leadingOn_5 : decode cX4_leadingOn 5 = .ok (.iload_n 1, 1) := by decide +kernel
theorem dX4_leadingOn_6 : decode cX4_leadingOn 6 = .ok (.bipush 7, 2) := by decide +kernel
theorem dX4_leadingOn_8 : decode cX4_leadingOn 8 = .ok (.if_icmp .lt 7, 3) := by decide +kernel
theorem dX4_leadingOn_11 : decode cX4_leadingOn 11 = .ok (.sipush 255, 3) := by decide +kernel
theorem dX4_leadingOn_14 : decode cX4_leadingOn 14 = .ok (.ireturn, 1) := by decide +kernel
theorem dX4_leadingOn_15 : decode cX4_leadingOn 15 = .ok (.iload_n 3, 1) := by decide +kernel
theorem dX4_leadingOn_16 : decode cX4_leadingOn 16 = .ok (.ifCond .le 29, 3) := by decide +kernel
theorem dX4_leadingOn_19 : decode cX4_leadingOn 19 = .ok (.aload_n 0, 1) := by decide +kernel
theorem dX4_leadingOn_20 : decode cX4_leadingOn 20 = .ok (.getfield 21, 3) := by decide +kernel
theorem dX4_leadingOn_23 : decode cX4_leadingOn 23 = .ok (.iload_n 1, 1) := by decide +kernel
theorem dX4_leadingOn_24 : decode cX4_leadingOn 24 = .ok (.baload, 1) := by decide +kernel
theorem dX4_leadingOn_25 : decode cX4_leadingOn 25 = .ok (.ifCond .eq 20, 3) := by decide +kernel
theorem dX4_leadingOn_28 : decode cX4_leadingOn 28 = .ok (.aload_n 0, 1) := by decide +kernel
theorem dX4_leadingOn_29 : decode cX4_leadingOn 29 = .ok (.getfield 27, 3) := by decide +kernel
theorem dX4_leadingOn_32 : decode cX4_leadingOn 32 = .ok (.iload_n 1, 1) := by decide +kernel
theorem dX4_leadingOn_33 : decode cX4_leadingOn 33 = .ok (.aaload, 1) := by decide +kernel
theorem dX4_leadingOn_34 : decode cX4_leadingOn 34 = .ok (.iload_n 3, 1) := by decide +kernel
theorem dX4_leadingOn_35 : decode cX4_leadingOn 35 = .ok (.iconst 1, 1) := by decide +kernel
theorem dX4_leadingOn_36 : decode cX4_leadingOn 36 = .ok (.isub, 1) := by decide +kernel
theorem dX4_leadingOn_37 : decode cX4_leadingOn 37 = .ok (.iaload, 1) := by decide +kernel
theorem dX4_leadingOn_38 : decode cX4_leadingOn 38 = .ok (.ifCond .eq 7, 3) := by decide +kernel
theorem dX4_leadingOn_41 : decode cX4_leadingOn 41 = .ok (.sipush 255, 3) := by decide +kernel
theorem dX4_leadingOn_44 : decode cX4_leadingOn 44 = .ok (.ireturn, 1) := by decide +kernel
theorem dX4_leadingOn_45 : decode cX4_leadingOn 45 = .ok (.aload_n 0, 1) := by decide +kernel
theorem dX4_leadingOn_46 : decode cX4_leadingOn 46 = .ok (.getfield 27, 3) := by decide +kernel
theorem dX4_leadingOn_49 : decode cX4_leadingOn 49 = .ok (.iload_n 1, 1) := by decide +kernel
theorem dX4_leadingOn_50 : decode cX4_leadingOn 50 = .ok (.aaload, 1) := by decide +kernel
theorem dX4_leadingOn_51 : decode cX4_leadingOn 51 = .ok (.iload_n 3, 1) := by decide +kernel
theorem dX4_leadingOn_52 : decode cX4_leadingOn 52 = .ok (.iaload, 1) := by decide +kernel
theorem dX4_leadingOn_53 : decode cX4_leadingOn 53 = .ok (.ireturn, 1) := by decide +kernel
