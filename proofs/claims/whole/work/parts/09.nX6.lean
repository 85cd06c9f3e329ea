set_option maxRecDepth 20000 in
theorem ggX6_init_X6_empties : GoodIn wsX6_init wsX6_empties := goodIn_r _ [34, 35, 36, 37, 7, 13, 38, 39, 40, 41, 42, 43, 44, 45, 46, 47, 48, 49, 50, 51, 52, 53, 54, 55, 56, 57, 58, 59, 60, 61, 62, 63, 64, 65] (by decide +kernel) (by decide +kernel)
set_option maxRecDepth 20000 in
theorem gX6_init_X6_empties : GoodIn wsX6_init (wsV RX6 84 RX6 yX6_empties wsX6_empties) := goodIn_app (goodIn_of _ (by decide +kernel)) ggX6_init_X6_empties
theorem dX6_init_0 : decode cX6_init 0 = .ok (.aload_n 0, 1) := by decide +kernel
theorem dX6_init_1 : decode cX6_init 1 = .ok (.invokespecial 1, 3) := by decide +kernel
theorem dX6_init_4 : decode cX6_init 4 = .ok (.aload_n 0, 1) := by decide +kernel
theorem dX6_init_5 : decode cX6_init 5 = .ok (.iconst 4, 1) := by decide +kernel
theorem dX6_init_6 : decode cX6_init 6 = .ok (.putfield 7, 3) := by decide +kernel
theorem dX6_init_9 : decode cX6_init 9 = .ok (.aload_n 0, 1) := by decide +kernel
theorem dX6_init_10 : decode cX6_init 10 = .ok (.iconst 4, 1) := by decide +kernel
theorem dX6_init_11 : decode cX6_init 11 = .ok (.putfield 13, 3) := by decide +kernel
theorem dX6_init_14 : decode cX6_init 14 = .ok (.aload_n 0, 1) := by decide +kernel
theorem dX6_init_15 : decode cX6_init 15 = .ok (.bipush 8, 2) := by decide +kernel
theorem dX6_init_17 : decode cX6_init 17 = .ok (.newarray .boolean, 2) := by decide +kernel
theorem dX6_init_19 : decode cX6_init 19 = .ok (.putfield 16, 3) := by decide +kernel
theorem dX6_init_22 : decode cX6_init 22 = .ok (.aload_n 0, 1) := by decide +kernel
theorem dX6_init_23 : decode cX6_init 23 = .ok (.bipush 14, 2) := by decide +kernel
theorem dX6_init_25 : decode cX6_init 25 = .ok (.newarray .int, 2) := by decide +kernel
theorem dX6_init_27 : decode cX6_init 27 = .ok (.putfield 20, 3) := by decide +kernel
theorem dX6_init_30 : decode cX6_init 30 = .ok (.aload_n 0, 1) := by decide +kernel
theorem dX6_init_31 : decode cX6_init 31 = .ok (.bipush 14, 2) := by decide +kernel
theorem dX6_init_33 : decode cX6_init 33 = .ok (.newarray .int, 2) := by decide +kernel
theorem dX6_init_35 : decode cX6_init 35 = .ok (.putfield 24, 3) := by decide +kernel
theorem dX6_init_38 : decode cX6_init 38 = .ok (.aload_n 0, 1) := by decide +kernel
theorem dX6_init_39 : decode cX6_init 39 = .ok (.bipush 14, 2) := by decide +kernel
theorem dX6_init_41 : decode cX6_init 41 = .ok (.newarray .int, 2) := by decide +kernel
theorem dX6_init_43 : decode cX6_init 43 = .ok (.putfield 27, 3) := by decide +kernel
theorem dX6_init_46 : decode cX6_init 46 = .ok (.aload_n 0, 1) := by decide +kernel
theorem dX6_init_47 : decode cX6_init 47 = .ok (.bipush 14, 2) := by decide +kernel
theorem dX6_init_49 : decode cX6_init 49 = .ok (.newarray .boolean, 2) := by decide +kernel
theorem dX6_init_51 : decode cX6_init 51 = .ok (.putfield 30, 3) := by decide +kernel
theorem dX6_init_54 : decode cX6_init 54 = .ok (.aload_n 0, 1) := by decide +kernel
theorem dX6_init_55 : decode cX6_init 55 = .ok (.bipush 112, 2) := by decide +kernel
theorem dX6_init_57 : decode cX6_init 57 = .ok (.newarray .int, 2) := by decide +kernel
theorem dX6_init_59 : decode cX6_init 59 = .ok (.putfield 33, 3) := by decide +kernel
theorem dX6_init_62 : decode cX6_init 62 = .ok (.aload_n 0, 1) := by decide +kernel
theorem dX6_init_63 : decode cX6_init 63 = .ok (.bipush 60, 2) := by decide +kernel
theorem dX6_init_65 : decode cX6_init 65 = .ok (.newarray .int, 2) := by decide +kernel
theorem dX6_init_67 : decode cX6_init 67 = .ok (.putfield 36, 3) := by decide +kernel
theorem dX6_init_70 : decode cX6_init 70 = .ok (.aload_n 0, 1) := by decide +kernel
theorem dX6_init_71 : decode cX6_init 71 = .ok (.bipush 60, 2) := by decide +kernel
theorem dX6_init_73 : decode cX6_init 73 = .ok (.newarray .int, 2) := by decide +kernel
theorem dX6_init_75 : decode cX6_init 75 = .ok (.putfield 39, 3) := by decide +kernel
theorem dX6_init_78 : decode cX6_init 78 = .ok (.aload_n 0, 1) := by decide +kernel
theorem dX6_init_79 : decode cX6_init 79 = .ok (.bipush 60, 2) := by decide +kernel
theorem dX6_init_81 : decode cX6_init 81 = .ok (.newarray .int, 2) := by decide +kernel
theorem dX6_init_83 : decode cX6_init 83 = .ok (.putfield 42, 3) := by decide +kernel
theorem dX6_init_86 : decode cX6_init 86 = .ok (.aload_n 0, 1) := by decide +kernel
theorem dX6_init_87 : decode cX6_init 87 = .ok (.bipush 60, 2) := by decide +kernel
theorem dX6_init_89 : decode cX6_init 89 = .ok (.newarray .int, 2) := by decide +kernel
theorem dX6_init_91 : decode cX6_init 91 = .ok (.putfield 45, 3) := by decide +kernel
theorem dX6_init_94 : decode cX6_init 94 = .ok (.aload_n 0, 1) := by decide +kernel
theorem dX6_init_95 : decode cX6_init 95 = .ok (.bipush 60, 2) := by decide +kernel
theorem dX6_init_97 : decode cX6_init 97 = .ok (.newarray .int, 2) := by decide +kernel
theorem dX6_init_99 : decode cX6_init 99 = .ok (.putfield 48, 3) := by decide +kernel
theorem dX6_init_102 : decode cX6_init 102 = .ok (.aload_n 0, 1) := by decide +kernel
theorem dX6_init_103 : decode cX6_init 103 = .ok (.sipush 1200, 3) := by decide +kernel
theorem dX6_init_106 : decode cX6_init 106 = .ok (.newarray .int, 2) := by decide +kernel
theorem dX6_init_108 : decode cX6_init 108 = .ok (.putfield 51, 3) := by decide +kernel
theorem dX6_init_111 : decode cX6_init 111 = .ok (.aload_n 0, 1) := by decide +kernel
theorem dX6_init_112 : decode cX6_init 112 = .ok (.bipush 26, 2) := by decide +kernel
theorem dX6_init_114 : decode cX6_init 114 = .ok (.newarray .int, 2) := by decide +kernel
theorem dX6_init_116 : decode cX6_init 116 = .ok (.putfield 54, 3) := by decide +kernel
theorem dX6_init_119 : decode cX6_init 119 = .ok (.aload_n 0, 1) := by decide +kernel
theorem dX6_init_120 : decode cX6_init 120 = .ok (.bipush 26, 2) := by decide +kernel
theorem dX6_init_122 : decode cX6_init 122 = .ok (.newarray .int, 2) := by decide +kernel
theorem dX6_init_124 : decode cX6_init 124 = .ok (.putfield 57, 3) := by decide +kernel
theorem dX6_init_127 : decode cX6_init 127 = .ok (.aload_n 0, 1) := by decide +kernel
theorem dX6_init_128 : decode cX6_init 128 = .ok (.bipush 10, 2) := by decide +kernel
theorem dX6_init_130 : decode cX6_init 130 = .ok (.newarray .int, 2) := by decide +kernel
theorem dX6_init_132 : decode cX6_init 132 = .ok (.putfield 60, 3) := by decide +kernel
theorem dX6_init_135 : decode cX6_init 135 = .ok (.aload_n 0, 1) := by decide +kernel
theorem dX6_init_136 : decode cX6_init 136 = .ok (.bipush 10, 2) := by decide +kernel
theorem dX6_init_138 : decode cX6_init 138 = .ok (.newarray .int, 2) := by decide +kernel
theorem dX6_init_140 : decode cX6_init 140 = .ok (.putfield 63, 3) := by decide +kernel
theorem dX6_init_143 : decode cX6_init 143 = .ok (.aload_n 0, 1) := by decide +kernel
theorem dX6_init_144 : decode cX6_init 144 = .ok (.bipush 10, 2) := by decide +kernel
theorem dX6_init_146 : decode cX6_init 146 = .ok (.newarray .int, 2) := by decide +kernel
theorem dX6_init_148 : decode cX6_init 148 = .ok (.putfield 66, 3) := by decide +kernel
theorem dX6_init_151 : decode cX6_init 151 = .ok (.aload_n 0, 1) := by decide +kernel
theorem dX6_init_152 : decode cX6_init 152 = .ok (.bipush 10, 2) := by decide +kernel
theorem dX6_init_154 : decode cX6_init 154 = .ok (.newarray .int, 2) := by decide +kernel
theorem dX6_init_156 : decode cX6_init 156 = .ok (.putfield 69, 3) := by decide +kernel
theorem dX6_init_159 : decode cX6_init 159 = .ok (.aload_n 0, 1) := by decide +kernel
theorem dX6_init_160 : decode cX6_init 160 = .ok (.bipush 56, 2) := by decide +kernel
theorem dX6_init_162 : decode cX6_init 162 = .ok (.newarray .int, 2) := by decide +kernel
theorem dX6_init_164 : decode cX6_init 164 = .ok (.putfield 72, 3) := by decide +kernel
theorem dX6_init_167 : decode cX6_init 167 = .ok (.aload_n 0, 1) := by decide +kernel
theorem dX6_init_168 : decode cX6_init 168 = .ok (.bipush 12, 2) := by decide +kernel
theorem dX6_init_170 : decode cX6_init 170 = .ok (.newarray .int, 2) := by decide +kernel
theorem dX6_init_172 : decode cX6_init 172 = .ok (.putfield 75, 3) := by decide +kernel
theorem dX6_init_175 : decode cX6_init 175 = .ok (.aload_n 0, 1) := by decide +kernel
theorem dX6_init_176 : decode cX6_init 176 = .ok (.bipush 12, 2) := by decide +kernel
theorem dX6_init_178 : decode cX6_init 178 = .ok (.newarray .int, 2) := by decide +kernel
theorem dX6_init_180 : decode cX6_init 180 = .ok (.putfield 78, 3) := by decide +kernel
theorem dX6_init_183 : decode cX6_init 183 = .ok (.aload_n 0, 1) := by decide +kernel
theorem dX6_init_184 : decode cX6_init 184 = .ok (.sipush 4096, 3) := by decide +kernel
theorem dX6_init_187 : decode cX6_init 187 = .ok (.newarray .int, 2) := by decide +kernel
theorem dX6_init_189 : decode cX6_init 189 = .ok (.putfield 81, 3) := by decide +kernel
theorem dX6_init_192 : decode cX6_init 192 = .ok (.aload_n 0, 1) := by decide +kernel
theorem dX6_init_193 : decode cX6_init 193 = .ok (.invokevirtual 84, 3) := by decide +kernel
theorem dX6_init_196 : decode cX6_init 196 = .ok (.return_, 1) := by decide +kernel
theorem dX6_thrown_0 : decode cX6_thrown 0 = .ok (.aload_n 0, 1) := by decide +kernel
theorem dX6_thrown_1 : decode cX6_thrown 1 = .ok (.getfield 87, 3) := by decide +kernel
theorem dX6_thrown_4 : decode cX6_thrown 4 = .ok (.ireturn, 1) := by decide +kernel
theorem dX6_holds_0 : decode cX6_holds 0 = .ok (.aload_n 0, 1) := by decide +kernel
theorem dX6_holds_1 : decode cX6_holds 1 = .ok (.iload_n 1, 1) := by decide +kernel
theorem dX6_holds_2 : decode cX6_holds 2 = .ok (.putfield 87, 3) := by decide +kernel
theorem dX6_holds_5 : decode cX6_holds 5 = .ok (.iload_n 1, 1) := by decide +kernel
theorem dX6_holds_6 : decode cX6_holds 6 = .ok (.ifCond .ne 7, 3) := by decide +kernel
theorem dX6_holds_9 : decode cX6_holds 9 = .ok (.iconst 1, 1) := by decide +kernel
theorem dX6_holds_10 : decode cX6_holds 10 = .ok (.goto 4, 3) := by decide +kernel
theorem dX6_holds_13 : decode cX6_holds 13 = .ok (.iconst 0, 1) := by decide +kernel
theorem dX6_holds_14 : decode cX6_holds 14 = .ok (.ireturn, 1) := by decide +kernel
theorem dX6_in_0 : decode cX6_in 0 = .ok (.iload_n 0, 1) := by decide +kernel
theorem dX6_in_1 : decode cX6_in 1 = .ok (.iload_n 1, 1) := by decide +kernel
theorem dX6_in_2 : decode cX6_in 2 = .ok (.if_icmp .lt 12, 3) := by decide +kernel
theorem dX6_in_5 : decode cX6_in 5 = .ok (.iload_n 0, 1) := by decide +kernel
theorem dX6_in_6 : decode cX6_in 6 = .ok (.iload_n 2, 1) := by decide +kernel
theorem dX6_in_7 : decode cX6_in 7 = .ok (.if_icmp .gt 7, 3) := by decide +kernel
theorem dX6_in_10 : decode cX6_in 10 = .ok (.iconst 1, 1) := by decide +kernel
theorem dX6_in_11 : decode cX6_in 11 = .ok (.goto 4, 3) := by decide +kernel
theorem dX6_in_14 : decode cX6_in 14 = .ok (.iconst 0, 1) := by decide +kernel
theorem dX6_in_15 : decode cX6_in 15 = .ok (.ireturn, 1) := by decide +kernel
theorem dX6_empties_0 : decode cX6_empties 0 = .ok (.aload_n 0, 1) := by decide +kernel
theorem dX6_empties_1 : decode cX6_empties 1 = .ok (.iconst 0, 1) := by decide +kernel
theorem dX6_empties_2 : decode cX6_empties 2 = .ok (.putfield 90, 3) := by decide +kernel
theorem dX6_empties_5 : decode cX6_empties 5 = .ok (.aload_n 0, 1) := by decide +kernel
theorem dX6_empties_6 : decode cX6_empties 6 = .ok (.iconst 0, 1) := by decide +kernel
theorem dX6_empties_7 : decode cX6_empties 7 = .ok (.putfield 93, 3) := by decide +kernel
theorem dX6_empties_10 : decode cX6_empties 10 = .ok (.aload_n 0, 1) := by decide +kernel
theorem dX6_empties_11 : decode cX6_empties 11 = .ok (.iconst 0, 1) := by decide +kernel
theorem dX6_empties_12 : decode cX6_empties 12 = .ok (.putfield 96, 3) := by decide +kernel
theorem dX6_empties_15 : decode cX6_empties 15 = .ok (.iconst 0, 1) := by decide +kernel
theorem dX6_empties_16 : decode cX6_empties 16 = .ok (.istore_n 1, 1) := by decide +kernel
theorem dX6_empties_17 : decode cX6_empties 17 = .ok (.iload_n 1, 1) := by decide +kernel
theorem dX6_empties_18 : decode cX6_empties 18 = .ok (.bipush 8, 2) := by decide +kernel
theorem dX6_empties_20 : decode cX6_empties 20 = .ok (.if_icmp .ge 16, 3) := by decide +kernel
theorem dX6_empties_23 : decode cX6_empties 23 = .ok (.aload_n 0, 1) := by decide +kernel
theorem dX6_empties_24 : decode cX6_empties 24 = .ok (.getfield 16, 3) := by decide +kernel
theorem dX6_empties_27 : decode cX6_empties 27 = .ok (.iload_n 1, 1) := by decide +kernel
theorem dX6_empties_28 : decode cX6_empties 28 = .ok (.iconst 0, 1) := by decide +kernel
theorem dX6_empties_29 : decode cX6_empties 29 = .ok (.bastore, 1) := by decide +kernel
theorem dX6_empties_30 : decode cX6_empties 30 = .ok (.iinc 1 1, 3) := by decide +kernel
theorem dX6_empties_33 : decode cX6_empties 33 = .ok (.goto (-16), 3) := by decide +kernel
theorem dX6_empties_36 : decode cX6_empties 36 = .ok (.iconst 0, 1) := by decide +kernel
theorem dX6_empties_37 : decode cX6_empties 37 = .ok (.istore_n 1, 1) := by decide +kernel
theorem dX6_empties_38 : decode cX6_empties 38 = .ok (.iload_n 1, 1) := by decide +kernel
theorem dX6_empties_39 : decode cX6_empties 39 = .ok (.bipush 112, 2) := by decide +kernel
theorem dX6_empties_41 : decode cX6_empties 41 = .ok (.if_icmp .ge 16, 3) := by decide +kernel
theorem dX6_empties_44 : decode cX6_empties 44 = .ok (.aload_n 0, 1) := by decide +kernel
theorem dX6_empties_45 : decode cX6_empties 45 = .ok (.getfield 33, 3) := by decide +kernel
theorem dX6_empties_48 : decode cX6_empties 48 = .ok (.iload_n 1, 1) := by decide +kernel
theorem dX6_empties_49 : decode cX6_empties 49 = .ok (.iconst (-1), 1) := by decide +kernel
theorem dX6_empties_50 : decode cX6_empties 50 = .ok (.iastore, 1) := by decide +kernel
theorem dX6_empties_51 : decode cX6_empties 51 = .ok (.iinc 1 1, 3) := by decide +kernel
theorem dX6_empties_54 : decode cX6_empties 54 = .ok (.goto (-16), 3) := by decide +kernel
theorem dX6_empties_57 : decode cX6_empties 57 = .ok (.return_, 1) := by decide +kernel
set_option maxRecDepth 20000 in
theorem ggX6_areTwo_X6_in : GoodIn wsX6_areTwo wsX6_in := goodIn_r _ [5] (by decide +kernel) (by decide +kernel)
set_option maxRecDepth 20000 in
theorem gX6_areTwo_X6_in : GoodIn wsX6_areTwo (va_wsS RX6 99 yX6_in wsX6_in) := goodIn_app (goodIn_of _ (by decide +kernel)) ggX6_areTwo_X6_in
theorem dX6_areTwo_0 : decode cX6_areTwo 0 = .ok (.iload_n 1, 1) := by decide +kernel
theorem dX6_areTwo_1 : decode cX6_areTwo 1 = .ok (.iconst 0, 1) := by decide +kernel
theorem dX6_areTwo_2 : decode cX6_areTwo 2 = .ok (.aload_n 0, 1) := by decide +kernel
theorem dX6_areTwo_3 : decode cX6_areTwo 3 = .ok (.getfield 7, 3) := by decide +kernel
theorem dX6_areTwo_6 : decode cX6_areTwo 6 = .ok (.iconst 1, 1) := by decide +kernel
theorem dX6_areTwo_7 : decode cX6_areTwo 7 = .ok (.isub, 1) := by decide +kernel
theorem dX6_areTwo_8 : decode cX6_areTwo 8 = .ok (.invokestatic 99, 3) := by decide +kernel
theorem dX6_areTwo_11 : decode cX6_areTwo 11 = .ok (.ifCond .eq 26, 3) := by decide +kernel
theorem dX6_areTwo_14 : decode cX6_areTwo 14 = .ok (.iload_n 2, 1) := by decide +kernel
theorem dX6_areTwo_15 : decode cX6_areTwo 15 = .ok (.iconst 0, 1) := by decide +kernel
theorem dX6_areTwo_16 : decode cX6_areTwo 16 = .ok (.aload_n 0, 1) := by decide +kernel
theorem dX6_areTwo_17 : decode cX6_areTwo 17 = .ok (.getfield 7, 3) := by decide +kernel
theorem dX6_areTwo_20 : decode cX6_areTwo 20 = .ok (.iconst 1, 1) := by decide +kernel
theorem dX6_areTwo_21 : decode cX6_areTwo 21 = .ok (.isub, 1) := by decide +kernel
theorem dX6_areTwo_22 : decode cX6_areTwo 22 = .ok (.invokestatic 99, 3) := by decide +kernel
theorem dX6_areTwo_25 : decode cX6_areTwo 25 = .ok (.ifCond .eq 12, 3) := by decide +kernel
theorem dX6_areTwo_28 : decode cX6_areTwo 28 = .ok (.iload_n 1, 1) := by decide +kernel
theorem dX6_areTwo_29 : decode cX6_areTwo 29 = .ok (.iload_n 2, 1) := by decide +kernel
theorem dX6_areTwo_30 : decode cX6_areTwo 30 = .ok (.if_icmp .eq 7, 3) := by decide +kernel
theorem dX6_areTwo_33 : decode cX6_areTwo 33 = .ok (.iconst 1, 1) := by decide +kernel
theorem dX6_areTwo_34 : decode cX6_areTwo 34 = .ok (.goto 4, 3) := by decide +kernel
theorem dX6_areTwo_37 : decode cX6_areTwo 37 = .ok (.iconst 0, 1) := by decide +kernel
theorem dX6_areTwo_38 : decode cX6_areTwo 38 = .ok (.ireturn, 1) := by decide +kernel
set_option maxRecDepth 20000 in
theorem ggX6_isFibre_X6_in : GoodIn wsX6_isFibre wsX6_in := goodIn_r _ [5] (by decide +kernel) (by decide +kernel)
set_option maxRecDepth 20000 in
theorem gX6_isFibre_X6_in : GoodIn wsX6_isFibre (va_wsS RX6 99 yX6_in wsX6_in) := goodIn_app (goodIn_of _ (by decide +kernel)) ggX6_isFibre_X6_in
theorem dX6_isFibre_0 : decode cX6_isFibre 0 = .ok (.iload_n 1, 1) := by decide +kernel
theorem dX6_isFibre_1 : decode cX6_isFibre 1 = .ok (.iconst 0, 1) := by decide +kernel
theorem dX6_isFibre_2 : decode cX6_isFibre 2 = .ok (.aload_n 0, 1) := by decide +kernel
theorem dX6_isFibre_3 : decode cX6_isFibre 3 = .ok (.getfield 90, 3) := by decide +kernel
theorem dX6_isFibre_6 : decode cX6_isFibre 6 = .ok (.iconst 1, 1) := by decide +kernel
theorem dX6_isFibre_7 : decode cX6_isFibre 7 = .ok (.isub, 1) := by decide +kernel
theorem dX6_isFibre_8 : decode cX6_isFibre 8 = .ok (.invokestatic 99, 3) := by decide +kernel
theorem dX6_isFibre_11 : decode cX6_isFibre 11 = .ok (.ireturn, 1) := by decide +kernel
set_option maxRecDepth 20000 in
theorem ggX6_isLight_X6_in : GoodIn wsX6_isLight wsX6_in := goodIn_r _ [5] (by decide +kernel) (by decide +kernel)
set_option maxRecDepth 20000 in
theorem gX6_isLight_X6_in : GoodIn wsX6_isLight (va_wsS RX6 99 yX6_in wsX6_in) := goodIn_app (goodIn_of _ (by decide +kernel)) ggX6_isLight_X6_in
theorem dX6_isLight_0 : decode cX6_isLight 0 = .ok (.iload_n 1, 1) := by decide +kernel
theorem dX6_isLight_1 : decode cX6_isLight 1 = .ok (.iconst 0, 1) := by decide +kernel
theorem dX6_isLight_2 : decode cX6_isLight 2 = .ok (.aload_n 0, 1) := by decide +kernel
theorem dX6_isLight_3 : decode cX6_isLight 3 = .ok (.getfield 96, 3) := by decide +kernel
theorem dX6_isLight_6 : decode cX6_isLight 6 = .ok (.iconst 1, 1) := by decide +kernel
theorem dX6_isLight_7 : decode cX6_isLight 7 = .ok (.isub, 1) := by decide +kernel
theorem dX6_isLight_8 : decode cX6_isLight 8 = .ok (.invokestatic 99, 3) := by decide +kernel
theorem dX6_isLight_11 : decode cX6_isLight 11 = .ok (.ireturn, 1) := by decide +kernel
set_option maxRecDepth 20000 in
theorem ggX6_begin_X6_in : GoodIn wsX6_begin wsX6_in := goodIn_r _ [6] (by decide +kernel) (by decide +kernel)
set_option maxRecDepth 20000 in
theorem gX6_begin_X6_in : GoodIn wsX6_begin (va_wsS RX6 99 yX6_in wsX6_in) := goodIn_app (goodIn_of _ (by decide +kernel)) ggX6_begin_X6_in
set_option maxRecDepth 20000 in
theorem ggX6_begin_X6_holds : GoodIn wsX6_begin wsX6_holds := goodIn_r _ [10, 11, 21, 22, 23, 24, 25, 26, 27, 28, 29, 30, 31, 32, 33, 34, 35, 36, 37, 38, 39, 40, 41, 42, 43, 44, 45, 46, 47, 48] (by decide +kernel) (by decide +kernel)
set_option maxRecDepth 20000 in
theorem gX6_begin_X6_holds : GoodIn wsX6_begin (wsV RX6 103 RX6 yX6_holds wsX6_holds) := goodIn_app (goodIn_of _ (by decide +kernel)) ggX6_begin_X6_holds
set_option maxRecDepth 20000 in
theorem ggX6_begin_X6_empties : GoodIn wsX6_begin wsX6_empties := goodIn_r _ [15, 16, 17, 18, 19, 20, 21, 22, 23, 24, 25, 26, 27, 28, 29, 30, 31, 32, 33, 34, 35, 36, 37, 38, 39, 40, 41, 42, 43, 44, 45, 46, 47, 48] (by decide +kernel) (by decide +kernel)
set_option maxRecDepth 20000 in
theorem gX6_begin_X6_empties : GoodIn wsX6_begin (wsV RX6 84 RX6 yX6_empties wsX6_empties) := goodIn_app (goodIn_of _ (by decide +kernel)) ggX6_begin_X6_empties
theorem dX6_begin_0 : decode cX6_begin 0 = .ok (.aload_n 0, 1) := by decide +kernel
theorem dX6_begin_1 : decode cX6_begin 1 = .ok (.iload_n 1, 1) := by decide +kernel
theorem dX6_begin_2 : decode cX6_begin 2 = .ok (.iconst 2, 1) := by decide +kernel
theorem dX6_begin_3 : decode cX6_begin 3 = .ok (.bipush 8, 2) := by decide +kernel
theorem dX6_begin_5 : decode cX6_begin 5 = .ok (.invokestatic 99, 3) := by decide +kernel
theorem dX6_begin_8 : decode cX6_begin 8 = .ok (.ifCond .eq 17, 3) := by decide +kernel
theorem dX6_begin_11 : decode cX6_begin 11 = .ok (.iload_n 2, 1) := by decide +kernel
theorem dX6_begin_12 : decode cX6_begin 12 = .ok (.iconst 1, 1) := by decide +kernel
theorem dX6_begin_13 : decode cX6_begin 13 = .ok (.bipush 8, 2) := by decide +kernel
theorem dX6_begin_15 : decode cX6_begin 15 = .ok (.invokestatic 99, 3) := by decide +kernel
theorem dX6_begin_18 : decode cX6_begin 18 = .ok (.ifCond .eq 7, 3) := by decide +kernel
theorem dX6_begin_21 : decode cX6_begin 21 = .ok (.iconst 0, 1) := by decide +kernel
theorem dX6_begin_22 : decode cX6_begin 22 = .ok (.goto 4, 3) := by decide +kernel
theorem dX6_begin_25 : decode cX6_begin 25 = .ok (.iconst 1, 1) := by decide +kernel
theorem dX6_begin_26 : decode cX6_begin 26 = .ok (.invokevirtual 103, 3) := by decide +kernel
theorem dX6_begin_29 : decode cX6_begin 29 = .ok (.ifCond .eq 17, 3) := by decide +kernel
theorem dX6_begin_32 : decode cX6_begin 32 = .ok (.aload_n 0, 1) := by decide +kernel
theorem dX6_begin_33 : decode cX6_begin 33 = .ok (.iload_n 1, 1) := by decide +kernel
theorem dX6_begin_34 : decode cX6_begin 34 = .ok (.putfield 7, 3) := by decide +kernel
theorem dX6_begin_37 : decode cX6_begin 37 = .ok (.aload_n 0, 1) := by decide +kernel
theorem dX6_begin_38 : decode cX6_begin 38 = .ok (.iload_n 2, 1) := by decide +kernel
theorem dX6_begin_39 : decode cX6_begin 39 = .ok (.putfield 13, 3) := by decide +kernel
theorem dX6_begin_42 : decode cX6_begin 42 = .ok (.aload_n 0, 1) := by decide +kernel
theorem dX6_begin_43 : decode cX6_begin 43 = .ok (.invokevirtual 84, 3) := by decide +kernel
theorem dX6_begin_46 : decode cX6_begin 46 = .ok (.return_, 1) := by decide +kernel
set_option maxRecDepth 20000 in
theorem ggX6_addFibre_X6_areTwo : GoodIn wsX6_addFibre wsX6_areTwo := goodIn_r _ [10, 11, 12, 13, 9, 14, 20, 21, 22, 23, 24, 25, 26, 27, 28, 29, 30, 31, 32, 33, 34, 35, 36, 37, 38, 39, 40, 41, 42, 43, 44, 45, 46, 47] (by decide +kernel) (by decide +kernel)
set_option maxRecDepth 20000 in
theorem gX6_addFibre_X6_areTwo : GoodIn wsX6_addFibre (wsV RX6 107 RX6 yX6_areTwo wsX6_areTwo) := goodIn_app (goodIn_of _ (by decide +kernel)) ggX6_addFibre_X6_areTwo
set_option maxRecDepth 20000 in
theorem ggX6_addFibre_X6_in : GoodIn wsX6_addFibre wsX6_in := goodIn_r _ [14] (by decide +kernel) (by decide +kernel)
set_option maxRecDepth 20000 in
theorem gX6_addFibre_X6_in : GoodIn wsX6_addFibre (va_wsS RX6 99 yX6_in wsX6_in) := goodIn_app (goodIn_of _ (by decide +kernel)) ggX6_addFibre_X6_in
set_option maxRecDepth 20000 in
theorem ggX6_addFibre_X6_holds : GoodIn wsX6_addFibre wsX6_holds := goodIn_r _ [18, 19, 20, 21, 22, 23, 24, 25, 26, 27, 28, 29, 30, 31, 32, 33, 34, 35, 36, 37, 38, 39, 40, 41, 42, 43, 44, 45, 46, 47] (by decide +kernel) (by decide +kernel)
set_option maxRecDepth 20000 in
theorem gX6_addFibre_X6_holds : GoodIn wsX6_addFibre (wsV RX6 103 RX6 yX6_holds wsX6_holds) := goodIn_app (goodIn_of _ (by decide +kernel)) ggX6_addFibre_X6_holds
theorem dX6_addFibre_0 : decode cX6_addFibre 0 = .ok (.aload_n 0, 1) := by decide +kernel
theorem dX6_addFibre_1 : decode cX6_addFibre 1 = .ok (.aload_n 0, 1) := by decide +kernel
theorem dX6_addFibre_2 : decode cX6_addFibre 2 = .ok (.iload_n 1, 1) := by decide +kernel
theorem dX6_addFibre_3 : decode cX6_addFibre 3 = .ok (.iload_n 2, 1) := by decide +kernel
theorem dX6_addFibre_4 : decode cX6_addFibre 4 = .ok (.invokevirtual 107, 3) := by decide +kernel
theorem dX6_addFibre_7 : decode cX6_addFibre 7 = .ok (.ifCond .eq 14, 3) := by decide +kernel
theorem dX6_addFibre_10 : decode cX6_addFibre 10 = .ok (.iload_n 3, 1) := by decide +kernel
theorem dX6_addFibre_11 : decode cX6_addFibre 11 = .ok (.iconst 1, 1) := by decide +kernel
theorem dX6_addFibre_12 : decode cX6_addFibre 12 = .ok (.sipush 1000, 3) := by decide +kernel
theorem dX6_addFibre_15 : decode cX6_addFibre 15 = .ok (.invokestatic 99, 3) := by decide +kernel
theorem dX6_addFibre_18 : decode cX6_addFibre 18 = .ok (.ifCond .ne 7, 3) := by decide +kernel
theorem dX6_addFibre_21 : decode cX6_addFibre 21 = .ok (.iconst 1, 1) := by decide +kernel
theorem dX6_addFibre_22 : decode cX6_addFibre 22 = .ok (.goto 17, 3) := by decide +kernel
theorem dX6_addFibre_25 : decode cX6_addFibre 25 = .ok (.aload_n 0, 1) := by decide +kernel
theorem dX6_addFibre_26 : decode cX6_addFibre 26 = .ok (.getfield 90, 3) := by decide +kernel
theorem dX6_addFibre_29 : decode cX6_addFibre 29 = .ok (.bipush 14, 2) := by decide +kernel
theorem dX6_addFibre_31 : decode cX6_addFibre 31 = .ok (.if_icmp .ne 7, 3) := by decide +kernel
theorem dX6_addFibre_34 : decode cX6_addFibre 34 = .ok (.iconst 2, 1) := by decide +kernel
theorem dX6_addFibre_35 : decode cX6_addFibre 35 = .ok (.goto 4, 3) := by decide +kernel
theorem dX6_addFibre_38 : decode cX6_addFibre 38 = .ok (.iconst 0, 1) := by decide +kernel
theorem dX6_addFibre_39 : decode cX6_addFibre 39 = .ok (.invokevirtual 103, 3) := by decide +kernel
theorem dX6_addFibre_42 : decode cX6_addFibre 42 = .ok (.ifCond .ne 5, 3) := by decide +kernel
theorem dX6_addFibre_45 : decode cX6_addFibre 45 = .ok (.iconst 0, 1) := by decide +kernel
theorem dX6_addFibre_46 : decode cX6_addFibre 46 = .ok (.ireturn, 1) := by decide +kernel
theorem dX6_addFibre_47 : decode cX6_addFibre 47 = .ok (.aload_n 0, 1) := by decide +kernel
theorem dX6_addFibre_48 : decode cX6_addFibre 48 = .ok (.getfield 20, 3) := by decide +kernel
theorem dX6_addFibre_51 : decode cX6_addFibre 51 = .ok (.aload_n 0, 1) := by decide +kernel
theorem dX6_addFibre_52 : decode cX6_addFibre 52 = .ok (.getfield 90, 3) := by decide +kernel
theorem dX6_addFibre_55 : decode cX6_addFibre 55 = .ok (.iload_n 1, 1) := by decide +kernel
theorem dX6_addFibre_56 : decode cX6_addFibre 56 = .ok (.iastore, 1) := by decide +kernel
theorem dX6_addFibre_57 : decode cX6_addFibre 57 = .ok (.aload_n 0, 1) := by decide +kernel
theorem dX6_addFibre_58 : decode cX6_addFibre 58 = .ok (.getfield 24, 3) := by decide +kernel
theorem dX6_addFibre_61 : decode cX6_addFibre 61 = .ok (.aload_n 0, 1) := by decide +kernel
theorem dX6_addFibre_62 : decode cX6_addFibre 62 = .ok (.getfield 90, 3) := by decide +kernel
theorem dX6_addFibre_65 : decode cX6_addFibre 65 = .ok (.iload_n 2, 1) := by decide +kernel
theorem dX6_addFibre_66 : decode cX6_addFibre 66 = .ok (.iastore, 1) := by decide +kernel
theorem dX6_addFibre_67 : decode cX6_addFibre 67 = .ok (.aload_n 0, 1) := by decide +kernel
theorem dX6_addFibre_68 : decode cX6_addFibre 68 = .ok (.getfield 27, 3) := by decide +kernel
theorem dX6_addFibre_71 : decode cX6_addFibre 71 = .ok (.aload_n 0, 1) := by decide +kernel
theorem dX6_addFibre_72 : decode cX6_addFibre 72 = .ok (.getfield 90, 3) := by decide +kernel
theorem dX6_addFibre_75 : decode cX6_addFibre 75 = .ok (.iload_n 3, 1) := by decide +kernel
theorem dX6_addFibre_76 : decode cX6_addFibre 76 = .ok (.iastore, 1) := by decide +kernel
theorem dX6_addFibre_77 : decode cX6_addFibre 77 = .ok (.aload_n 0, 1) := by decide +kernel
theorem dX6_addFibre_78 : decode cX6_addFibre 78 = .ok (.getfield 30, 3) := by decide +kernel
theorem dX6_addFibre_81 : decode cX6_addFibre 81 = .ok (.aload_n 0, 1) := by decide +kernel
theorem dX6_addFibre_82 : decode cX6_addFibre 82 = .ok (.getfield 90, 3) := by decide +kernel
theorem dX6_addFibre_85 : decode cX6_addFibre 85 = .ok (.iconst 0, 1) := by decide +kernel
theorem dX6_addFibre_86 : decode cX6_addFibre 86 = .ok (.bastore, 1) := by decide +kernel
theorem dX6_addFibre_87 : decode cX6_addFibre 87 = .ok (.aload_n 0, 1) := by decide +kernel
theorem dX6_addFibre_88 : decode cX6_addFibre 88 = .ok (.dup, 1) := by decide +kernel
theorem dX6_addFibre_89 : decode cX6_addFibre 89 = .ok (.getfield 90, 3) := by decide +kernel
theorem dX6_addFibre_92 : decode cX6_addFibre 92 = .ok (.iconst 1, 1) := by decide +kernel
theorem dX6_addFibre_93 : decode cX6_addFibre 93 = .ok (.iadd, 1) := by decide +kernel
theorem dX6_addFibre_94 : decode cX6_addFibre 94 = .ok (.putfield 90, 3) := by decide +kernel
theorem dX6_addFibre_97 : decode cX6_addFibre 97 = .ok (.aload_n 0, 1) := by decide +kernel
theorem dX6_addFibre_98 : decode cX6_addFibre 98 = .ok (.getfield 90, 3) := by decide +kernel
theorem dX6_addFibre_101 : decode cX6_addFibre 101 = .ok (.iconst 1, 1) := by decide +kernel
theorem dX6_addFibre_102 : decode cX6_addFibre 102 = .ok (.isub, 1) := by decide +kernel
theorem dX6_addFibre_103 : decode cX6_addFibre 103 = .ok (.ireturn, 1) := by decide +kernel
set_option maxRecDepth 20000 in
theorem ggX6_toggleConverter_X6_in : GoodIn wsX6_toggleConverter wsX6_in := goodIn_r _ [6] (by decide +kernel) (by decide +kernel)
set_option maxRecDepth 20000 in
theorem gX6_toggleConverter_X6_in : GoodIn wsX6_toggleConverter (va_wsS RX6 99 yX6_in wsX6_in) := goodIn_app (goodIn_of _ (by decide +kernel)) ggX6_toggleConverter_X6_in
set_option maxRecDepth 20000 in
theorem ggX6_toggleConverter_X6_holds : GoodIn wsX6_toggleConverter wsX6_holds := goodIn_r _ [10, 11, 12, 13, 14, 15, 16, 17, 18, 19, 20, 21, 22, 23, 24, 25, 26, 27, 28, 29, 30, 31, 32, 33, 34, 35, 36, 37, 38, 39] (by decide +kernel) (by decide +kernel)
set_option maxRecDepth 20000 in
theorem gX6_toggleConverter_X6_holds : GoodIn wsX6_toggleConverter (wsV RX6 103 RX6 yX6_holds wsX6_holds) := goodIn_app (goodIn_of _ (by decide +kernel)) ggX6_toggleConverter_X6_holds
theorem dX6_toggleConverter_0 : decode cX6_toggleConverter 0 = .ok (.aload_n 0, 1) := by decide +kernel
theorem dX6_toggleConverter_1 : decode cX6_toggleConverter 1 = .ok (.iload_n 1, 1) := by decide +kernel
theorem dX6_toggleConverter_2 : decode cX6_toggleConverter 2 = .ok (.iconst 0, 1) := by decide +kernel
theorem dX6_toggleConverter_3 : decode cX6_toggleConverter 3 = .ok (.aload_n 0, 1) := by decide +kernel
theorem dX6_toggleConverter_4 : decode cX6_toggleConverter 4 = .ok (.getfield 7, 3) := by decide +kernel
theorem dX6_toggleConverter_7 : decode cX6_toggleConverter 7 = .ok (.iconst 1, 1) := by decide +kernel
theorem dX6_toggleConverter_8 : decode cX6_toggleConverter 8 = .ok (.isub, 1) := by decide +kernel
theorem dX6_toggleConverter_9 : decode cX6_toggleConverter 9 = .ok (.invokestatic 99, 3) := by decide +kernel
theorem dX6_toggleConverter_12 : decode cX6_toggleConverter 12 = .ok (.ifCond .eq 7, 3) := by decide +kernel
theorem dX6_toggleConverter_15 : decode cX6_toggleConverter 15 = .ok (.iconst 0, 1) := by decide +kernel
theorem dX6_toggleConverter_16 : decode cX6_toggleConverter 16 = .ok (.goto 4, 3) := by decide +kernel
theorem dX6_toggleConverter_19 : decode cX6_toggleConverter 19 = .ok (.iconst 1, 1) := by decide +kernel
theorem dX6_toggleConverter_20 : decode cX6_toggleConverter 20 = .ok (.invokevirtual 103, 3) := by decide +kernel
theorem dX6_toggleConverter_23 : decode cX6_toggleConverter 23 = .ok (.ifCond .ne 5, 3) := by decide +kernel
theorem dX6_toggleConverter_26 : decode cX6_toggleConverter 26 = .ok (.iconst 0, 1) := by decide +kernel
theorem dX6_toggleConverter_27 : decode cX6_toggleConverter 27 = .ok (.ireturn, 1) := by decide +kernel
theorem dX6_toggleConverter_28 : decode cX6_toggleConverter 28 = .ok (.aload_n 0, 1) := by decide +kernel
theorem dX6_toggleConverter_29 : decode cX6_toggleConverter 29 = .ok (.getfield 16, 3) := by decide +kernel
theorem dX6_toggleConverter_32 : decode cX6_toggleConverter 32 = .ok (.iload_n 1, 1) := by decide +kernel
theorem dX6_toggleConverter_33 : decode cX6_toggleConverter 33 = .ok (.aload_n 0, 1) := by decide +kernel
theorem dX6_toggleConverter_34 : decode cX6_toggleConverter 34 = .ok (.getfield 16, 3) := by decide +kernel
theorem dX6_toggleConverter_37 : decode cX6_toggleConverter 37 = .ok (.iload_n 1, 1) := by decide +kernel
theorem dX6_toggleConverter_38 : decode cX6_toggleConverter 38 = .ok (.baload, 1) := by decide +kernel
theorem dX6_toggleConverter_39 : decode cX6_toggleConverter 39 = .ok (.ifCond .ne 7, 3) := by decide +kernel
theorem dX6_toggleConverter_42 : decode cX6_toggleConverter 42 = .ok (.iconst 1, 1) := by decide +kernel
theorem dX6_toggleConverter_43 : decode cX6_toggleConverter 43 = .ok (.goto 4, 3) := by decide +kernel
theorem dX6_toggleConverter_46 : decode cX6_toggleConverter 46 = .ok (.iconst 0, 1) := by decide +kernel
theorem dX6_toggleConverter_47 : decode cX6_toggleConverter 47 = .ok (.bastore, 1) := by decide +kernel
theorem dX6_toggleConverter_48 : decode cX6_toggleConverter 48 = .ok (.aload_n 0, 1) := by decide +kernel
theorem dX6_toggleConverter_49 : decode cX6_toggleConverter 49 = .ok (.getfield 16, 3) := by decide +kernel
theorem dX6_toggleConverter_52 : decode cX6_toggleConverter 52 = .ok (.iload_n 1, 1) := by decide +kernel
theorem dX6_toggleConverter_53 : decode cX6_toggleConverter 53 = .ok (.baload, 1) := by decide +kernel
theorem dX6_toggleConverter_54 : decode cX6_toggleConverter 54 = .ok (.ireturn, 1) := by decide +kernel
set_option maxRecDepth 20000 in
theorem ggX6_numberOfUp_X6_isUp : GoodIn wsX6_numberOfUp wsX6_isUp := goodIn_r _ [6, 7, 8, 9, 10, 11, 5, 12, 13, 14, 15, 16, 17, 18, 19, 20, 21, 22, 23, 24, 25, 26, 27, 28, 29, 30, 31, 32, 33, 34, 35, 36, 37, 38, 39, 40, 41] (by decide +kernel) (by decide +kernel)
set_option maxRecDepth 20000 in
theorem gX6_numberOfUp_X6_isUp : GoodIn wsX6_numberOfUp (wsV RX6 111 RX6 yX6_isUp wsX6_isUp) := goodIn_app (goodIn_of _ (by decide +kernel)) ggX6_numberOfUp_X6_isUp
theorem dX6_numberOfUp_0 : decode cX6_numberOfUp 0 = .ok (.iconst 0, 1) := by decide +kernel
theorem dX6_numberOfUp_1 : decode cX6_numberOfUp 1 = .ok (.istore_n 1, 1) := by decide +kernel
theorem dX6_numberOfUp_2 : decode cX6_numberOfUp 2 = .ok (.iconst 0, 1) := by decide +kernel
theorem dX6_numberOfUp_3 : decode cX6_numberOfUp 3 = .ok (.istore_n 2, 1) := by decide +kernel
theorem dX6_numberOfUp_4 : decode cX6_numberOfUp 4 = .ok (.iload_n 2, 1) := by decide +kernel
theorem dX6_numberOfUp_5 : decode cX6_numberOfUp 5 = .ok (.aload_n 0, 1) := by decide +kernel
theorem dX6_numberOfUp_6 : decode cX6_numberOfUp 6 = .ok (.getfield 96, 3) := by decide +kernel
theorem dX6_numberOfUp_9 : decode cX6_numberOfUp 9 = .ok (.if_icmp .ge 25, 3) := by decide +kernel
theorem dX6_numberOfUp_12 : decode cX6_numberOfUp 12 = .ok (.iload_n 1, 1) := by decide +kernel
theorem dX6_numberOfUp_13 : decode cX6_numberOfUp 13 = .ok (.aload_n 0, 1) := by decide +kernel
theorem dX6_numberOfUp_14 : decode cX6_numberOfUp 14 = .ok (.iload_n 2, 1) := by decide +kernel
theorem dX6_numberOfUp_15 : decode cX6_numberOfUp 15 = .ok (.invokevirtual 111, 3) := by decide +kernel
theorem dX6_numberOfUp_18 : decode cX6_numberOfUp 18 = .ok (.ifCond .eq 7, 3) := by decide +kernel
theorem dX6_numberOfUp_21 : decode cX6_numberOfUp 21 = .ok (.iconst 1, 1) := by decide +kernel
theorem dX6_numberOfUp_22 : decode cX6_numberOfUp 22 = .ok (.goto 4, 3) := by decide +kernel
theorem dX6_numberOfUp_25 : decode cX6_numberOfUp 25 = .ok (.iconst 0, 1) := by decide +kernel
theorem dX6_numberOfUp_26 : decode cX6_numberOfUp 26 = .ok (.iadd, 1) := by decide +kernel
theorem dX6_numberOfUp_27 : decode cX6_numberOfUp 27 = .ok (.istore_n 1, 1) := by decide +kernel
theorem dX6_numberOfUp_28 : decode cX6_numberOfUp 28 = .ok (.iinc 2 1, 3) := by decide +kernel
theorem dX6_numberOfUp_31 : decode cX6_numberOfUp 31 = .ok (.goto (-27), 3) := by decide +kernel
theorem dX6_numberOfUp_34 : decode cX6_numberOfUp 34 = .ok (.iload_n 1, 1) := by decide +kernel
theorem dX6_numberOfUp_35 : decode cX6_numberOfUp 35 = .ok (.ireturn, 1) := by decide +kernel
set_option maxRecDepth 20000 in
theorem ggX6_cut_X6_isFibre : GoodIn wsX6_cut wsX6_isFibre := goodIn_r _ [6, 7, 8, 9, 5, 10, 31, 32, 33, 34, 35, 36, 37, 38, 39, 40, 41, 42, 43, 44, 45, 46, 47, 48, 49, 50, 51, 52, 53, 54, 55, 56, 57, 58] (by decide +kernel) (by decide +kernel)
set_option maxRecDepth 20000 in
theorem gX6_cut_X6_isFibre : GoodIn wsX6_cut (wsV RX6 114 RX6 yX6_isFibre wsX6_isFibre) := goodIn_app (goodIn_of _ (by decide +kernel)) ggX6_cut_X6_isFibre
set_option maxRecDepth 20000 in
theorem ggX6_cut_X6_holds : GoodIn wsX6_cut wsX6_holds := goodIn_r _ [14, 15, 31, 32, 33, 34, 35, 36, 37, 38, 39, 40, 41, 42, 43, 44, 45, 46, 47, 48, 49, 50, 51, 52, 53, 54, 55, 56, 57, 58] (by decide +kernel) (by decide +kernel)
set_option maxRecDepth 20000 in
theorem gX6_cut_X6_holds : GoodIn wsX6_cut (wsV RX6 103 RX6 yX6_holds wsX6_holds) := goodIn_app (goodIn_of _ (by decide +kernel)) ggX6_cut_X6_holds
set_option maxRecDepth 20000 in
theorem ggX6_cut_X6_numberOfUp : GoodIn wsX6_cut wsX6_numberOfUp := goodIn_r _ [19, 20, 21, 22, 23, 5, 24, 25, 1, 26, 27, 28, 29, 30, 31, 32, 33, 34, 35, 36, 37, 38, 39, 40, 41, 42, 43, 44, 45, 46, 47, 48, 49, 50, 51, 52, 53, 54, 55, 56, 57, 58] (by decide +kernel) (by decide +kernel)
set_option maxRecDepth 20000 in
theorem gX6_cut_X6_numberOfUp : GoodIn wsX6_cut (wsV RX6 117 RX6 yX6_numberOfUp wsX6_numberOfUp) := goodIn_app (goodIn_of _ (by decide +kernel)) ggX6_cut_X6_numberOfUp
theorem dX6_cut_0 : decode cX6_cut 0 = .ok (.aload_n 0, 1) := by decide +kernel
theorem dX6_cut_1 : decode cX6_cut 1 = .ok (.aload_n 0, 1) := by decide +kernel
theorem dX6_cut_2 : decode cX6_cut 2 = .ok (.iload_n 1, 1) := by decide +kernel
theorem dX6_cut_3 : decode cX6_cut 3 = .ok (.invokevirtual 114, 3) := by decide +kernel
theorem dX6_cut_6 : decode cX6_cut 6 = .ok (.ifCond .ne 7, 3) := by decide +kernel
theorem dX6_cut_9 : decode cX6_cut 9 = .ok (.iconst 1, 1) := by decide +kernel
theorem dX6_cut_10 : decode cX6_cut 10 = .ok (.goto 17, 3) := by decide +kernel
theorem dX6_cut_13 : decode cX6_cut 13 = .ok (.aload_n 0, 1) := by decide +kernel
theorem dX6_cut_14 : decode cX6_cut 14 = .ok (.getfield 30, 3) := by decide +kernel
theorem dX6_cut_17 : decode cX6_cut 17 = .ok (.iload_n 1, 1) := by decide +kernel
theorem dX6_cut_18 : decode cX6_cut 18 = .ok (.baload, 1) := by decide +kernel
theorem dX6_cut_19 : decode cX6_cut 19 = .ok (.ifCond .eq 7, 3) := by decide +kernel
theorem dX6_cut_22 : decode cX6_cut 22 = .ok (.iconst 2, 1) := by decide +kernel
theorem dX6_cut_23 : decode cX6_cut 23 = .ok (.goto 4, 3) := by decide +kernel
theorem dX6_cut_26 : decode cX6_cut 26 = .ok (.iconst 0, 1) := by decide +kernel
theorem dX6_cut_27 : decode cX6_cut 27 = .ok (.invokevirtual 103, 3) := by decide +kernel
theorem dX6_cut_30 : decode cX6_cut 30 = .ok (.ifCond .ne 5, 3) := by decide +kernel
theorem dX6_cut_33 : decode cX6_cut 33 = .ok (.iconst 0, 1) := by decide +kernel
theorem dX6_cut_34 : decode cX6_cut 34 = .ok (.ireturn, 1) := by decide +kernel
theorem dX6_cut_35 : decode cX6_cut 35 = .ok (.aload_n 0, 1) := by decide +kernel
theorem dX6_cut_36 : decode cX6_cut 36 = .ok (.invokevirtual 117, 3) := by decide +kernel
theorem dX6_cut_39 : decode cX6_cut 39 = .ok (.istore_n 2, 1) := by decide +kernel
theorem dX6_cut_40 : decode cX6_cut 40 = .ok (.aload_n 0, 1) := by decide +kernel
theorem dX6_cut_41 : decode cX6_cut 41 = .ok (.getfield 30, 3) := by decide +kernel
theorem dX6_cut_44 : decode cX6_cut 44 = .ok (.iload_n 1, 1) := by decide +kernel
theorem dX6_cut_45 : decode cX6_cut 45 = .ok (.iconst 1, 1) := by decide +kernel
theorem dX6_cut_46 : decode cX6_cut 46 = .ok (.bastore, 1) := by decide +kernel
theorem dX6_cut_47 : decode cX6_cut 47 = .ok (.iload_n 2, 1) := by decide +kernel
theorem dX6_cut_48 : decode cX6_cut 48 = .ok (.aload_n 0, 1) := by decide +kernel
theorem dX6_cut_49 : decode cX6_cut 49 = .ok (.invokevirtual 117, 3) := by decide +kernel
theorem dX6_cut_52 : decode cX6_cut 52 = .ok (.isub, 1) := by decide +kernel
theorem dX6_cut_53 : decode cX6_cut 53 = .ok (.ireturn, 1) := by decide +kernel
set_option maxRecDepth 20000 in
theorem ggX6_repair_X6_isFibre : GoodIn wsX6_repair wsX6_isFibre := goodIn_r _ [6, 7, 8, 9, 5, 10, 31, 32, 33, 34, 35, 36, 37, 38, 39, 40, 41, 42, 43, 44, 45, 46, 47, 48, 49, 50, 51, 52, 53, 54, 55, 56, 57, 58] (by decide +kernel) (by decide +kernel)
set_option maxRecDepth 20000 in
theorem gX6_repair_X6_isFibre : GoodIn wsX6_repair (wsV RX6 114 RX6 yX6_isFibre wsX6_isFibre) := goodIn_app (goodIn_of _ (by decide +kernel)) ggX6_repair_X6_isFibre
set_option maxRecDepth 20000 in
theorem ggX6_repair_X6_holds : GoodIn wsX6_repair wsX6_holds := goodIn_r _ [14, 15, 31, 32, 33, 34, 35, 36, 37, 38, 39, 40, 41, 42, 43, 44, 45, 46, 47, 48, 49, 50, 51, 52, 53, 54, 55, 56, 57, 58] (by decide +kernel) (by decide +kernel)
set_option maxRecDepth 20000 in
theorem gX6_repair_X6_holds : GoodIn wsX6_repair (wsV RX6 103 RX6 yX6_holds wsX6_holds) := goodIn_app (goodIn_of _ (by decide +kernel)) ggX6_repair_X6_holds
set_option maxRecDepth 20000 in
theorem ggX6_repair_X6_numberOfUp : GoodIn wsX6_repair wsX6_numberOfUp := goodIn_r _ [19, 20, 21, 22, 23, 5, 24, 25, 1, 26, 27, 28, 29, 30, 31, 32, 33, 34, 35, 36, 37, 38, 39, 40, 41, 42, 43, 44, 45, 46, 47, 48, 49, 50, 51, 52, 53, 54, 55, 56, 57, 58] (by decide +kernel) (by decide +kernel)
set_option maxRecDepth 20000 in
theorem gX6_repair_X6_numberOfUp : GoodIn wsX6_repair (wsV RX6 117 RX6 yX6_numberOfUp wsX6_numberOfUp) := goodIn_app (goodIn_of _ (by decide +kernel)) ggX6_repair_X6_numberOfUp
theorem dX6_repair_0 : decode cX6_repair 0 = .ok (.aload_n 0, 1) := by decide +kernel
theorem dX6_repair_1 : decode cX6_repair 1 = .ok (.aload_n 0, 1) := by decide +kernel
theorem dX6_repair_2 : decode cX6_repair 2 = .ok (.iload_n 1, 1) := by decide +kernel
theorem dX6_repair_3 : decode cX6_repair 3 = .ok (.invokevirtual 114, 3) := by decide +kernel
theorem dX6_repair_6 : decode cX6_repair 6 = .ok (.ifCond .ne 7, 3) := by decide +kernel
theorem dX6_repair_9 : decode cX6_repair 9 = .ok (.iconst 1, 1) := by decide +kernel
theorem dX6_repair_10 : decode cX6_repair 10 = .ok (.goto 17, 3) := by decide +kernel
theorem dX6_repair_13 : decode cX6_repair 13 = .ok (.aload_n 0, 1) := by decide +kernel
theorem dX6_repair_14 : decode cX6_repair 14 = .ok (.getfield 30, 3) := by decide +kernel
theorem dX6_repair_17 : decode cX6_repair 17 = .ok (.iload_n 1, 1) := by decide +kernel
theorem dX6_repair_18 : decode cX6_repair 18 = .ok (.baload, 1) := by decide +kernel
theorem dX6_repair_19 : decode cX6_repair 19 = .ok (.ifCond .eq 7, 3) := by decide +kernel
theorem dX6_repair_22 : decode cX6_repair 22 = .ok (.iconst 0, 1) := by decide +kernel
theorem dX6_repair_23 : decode cX6_repair 23 = .ok (.goto 4, 3) := by decide +kernel
theorem dX6_repair_26 : decode cX6_repair 26 = .ok (.iconst 2, 1) := by decide +kernel
theorem dX6_repair_27 : decode cX6_repair 27 = .ok (.invokevirtual 103, 3) := by decide +kernel
theorem dX6_repair_30 : decode cX6_repair 30 = .ok (.ifCond .ne 5, 3) := by decide +kernel
theorem dX6_repair_33 : decode cX6_repair 33 = .ok (.iconst 0, 1) := by decide +kernel
theorem dX6_repair_34 : decode cX6_repair 34 = .ok (.ireturn, 1) := by decide +kernel
theorem dX6_repair_35 : decode cX6_repair 35 = .ok (.aload_n 0, 1) := by decide +kernel
theorem dX6_repair_36 : decode cX6_repair 36 = .ok (.invokevirtual 117, 3) := by decide +kernel
theorem dX6_repair_39 : decode cX6_repair 39 = .ok (.istore_n 2, 1) := by decide +kernel
theorem dX6_repair_40 : decode cX6_repair 40 = .ok (.aload_n 0, 1) := by decide +kernel
theorem dX6_repair_41 : decode cX6_repair 41 = .ok (.getfield 30, 3) := by decide +kernel
theorem dX6_repair_44 : decode cX6_repair 44 = .ok (.iload_n 1, 1) := by decide +kernel
theorem dX6_repair_45 : decode cX6_repair 45 = .ok (.iconst 0, 1) := by decide +kernel
theorem dX6_repair_46 : decode cX6_repair 46 = .ok (.bastore, 1) := by decide +kernel
theorem dX6_repair_47 : decode cX6_repair 47 = .ok (.aload_n 0, 1) := by decide +kernel
theorem dX6_repair_48 : decode cX6_repair 48 = .ok (.invokevirtual 117, 3) := by decide +kernel
theorem dX6_repair_51 : decode cX6_repair 51 = .ok (.iload_n 2, 1) := by decide +kernel
theorem dX6_repair_52 : decode cX6_repair 52 = .ok (.isub, 1) := by decide +kernel
theorem dX6_repair_53 : decode cX6_repair 53 = .ok (.ireturn, 1) := by decide +kernel
set_option maxRecDepth 20000 in
theorem ggX6_lightOn_X6_isFibre : GoodIn wsX6_lightOn wsX6_isFibre := goodIn_r _ [7, 8, 9, 10, 6, 11, 17, 18, 19, 20, 21, 22, 23, 24, 25, 26, 27, 28, 29, 30, 31, 32, 33, 34, 35, 36, 37, 38, 39, 40, 41, 42, 43, 44] (by decide +kernel) (by decide +kernel)
set_option maxRecDepth 20000 in
theorem gX6_lightOn_X6_isFibre : GoodIn wsX6_lightOn (wsV RX6 114 RX6 yX6_isFibre wsX6_isFibre) := goodIn_app (goodIn_of _ (by decide +kernel)) ggX6_lightOn_X6_isFibre
set_option maxRecDepth 20000 in
theorem ggX6_lightOn_X6_in : GoodIn wsX6_lightOn wsX6_in := goodIn_r _ [11] (by decide +kernel) (by decide +kernel)
set_option maxRecDepth 20000 in
theorem gX6_lightOn_X6_in : GoodIn wsX6_lightOn (va_wsS RX6 99 yX6_in wsX6_in) := goodIn_app (goodIn_of _ (by decide +kernel)) ggX6_lightOn_X6_in
set_option maxRecDepth 20000 in
theorem ggX6_lightOn_X6_holds : GoodIn wsX6_lightOn wsX6_holds := goodIn_r _ [15, 16, 17, 18, 19, 20, 21, 22, 23, 24, 25, 26, 27, 28, 29, 30, 31, 32, 33, 34, 35, 36, 37, 38, 39, 40, 41, 42, 43, 44] (by decide +kernel) (by decide +kernel)
set_option maxRecDepth 20000 in
theorem gX6_lightOn_X6_holds : GoodIn wsX6_lightOn (wsV RX6 103 RX6 yX6_holds wsX6_holds) := goodIn_app (goodIn_of _ (by decide +kernel)) ggX6_lightOn_X6_holds
theorem dX6_lightOn_0 : decode cX6_lightOn 0 = .ok (.aload_n 0, 1) := by decide +kernel
theorem dX6_lightOn_1 : decode cX6_lightOn 1 = .ok (.aload_n 0, 1) := by decide +kernel
theorem dX6_lightOn_2 : decode cX6_lightOn 2 = .ok (.iload_n 1, 1) := by decide +kernel
theorem dX6_lightOn_3 : decode cX6_lightOn 3 = .ok (.invokevirtual 114, 3) := by decide +kernel
theorem dX6_lightOn_6 : decode cX6_lightOn 6 = .ok (.ifCond .ne 7, 3) := by decide +kernel
theorem dX6_lightOn_9 : decode cX6_lightOn 9 = .ok (.iconst 1, 1) := by decide +kernel
theorem dX6_lightOn_10 : decode cX6_lightOn 10 = .ok (.goto 22, 3) := by decide +kernel
theorem dX6_lightOn_13 : decode cX6_lightOn 13 = .ok (.iload_n 2, 1) := by decide +kernel
theorem dX6_lightOn_14 : decode cX6_lightOn 14 = .ok (.iconst 0, 1) := by decide +kernel
theorem dX6_lightOn_15 : decode cX6_lightOn 15 = .ok (.aload_n 0, 1) := by decide +kernel
theorem dX6_lightOn_16 : decode cX6_lightOn 16 = .ok (.getfield 13, 3) := by decide +kernel
theorem dX6_lightOn_19 : decode cX6_lightOn 19 = .ok (.iconst 1, 1) := by decide +kernel
theorem dX6_lightOn_20 : decode cX6_lightOn 20 = .ok (.isub, 1) := by decide +kernel
theorem dX6_lightOn_21 : decode cX6_lightOn 21 = .ok (.invokestatic 99, 3) := by decide +kernel
theorem dX6_lightOn_24 : decode cX6_lightOn 24 = .ok (.ifCond .eq 7, 3) := by decide +kernel
theorem dX6_lightOn_27 : decode cX6_lightOn 27 = .ok (.iconst 0, 1) := by decide +kernel
theorem dX6_lightOn_28 : decode cX6_lightOn 28 = .ok (.goto 4, 3) := by decide +kernel
theorem dX6_lightOn_31 : decode cX6_lightOn 31 = .ok (.iconst 2, 1) := by decide +kernel
theorem dX6_lightOn_32 : decode cX6_lightOn 32 = .ok (.invokevirtual 103, 3) := by decide +kernel
theorem dX6_lightOn_35 : decode cX6_lightOn 35 = .ok (.ifCond .eq 17, 3) := by decide +kernel
theorem dX6_lightOn_38 : decode cX6_lightOn 38 = .ok (.aload_n 0, 1) := by decide +kernel
theorem dX6_lightOn_39 : decode cX6_lightOn 39 = .ok (.getfield 33, 3) := by decide +kernel
theorem dX6_lightOn_42 : decode cX6_lightOn 42 = .ok (.bipush 8, 2) := by decide +kernel
theorem dX6_lightOn_44 : decode cX6_lightOn 44 = .ok (.iload_n 1, 1) := by decide +kernel
theorem dX6_lightOn_45 : decode cX6_lightOn 45 = .ok (.imul, 1) := by decide +kernel
theorem dX6_lightOn_46 : decode cX6_lightOn 46 = .ok (.iload_n 2, 1) := by decide +kernel
theorem dX6_lightOn_47 : decode cX6_lightOn 47 = .ok (.iadd, 1) := by decide +kernel
theorem dX6_lightOn_48 : decode cX6_lightOn 48 = .ok (.iaload, 1) := by decide +kernel
theorem dX6_lightOn_49 : decode cX6_lightOn 49 = .ok (.goto 4, 3) := by decide +kernel
theorem dX6_lightOn_52 : decode cX6_lightOn 52 = .ok (.iconst 0, 1) := by decide +kernel
theorem dX6_lightOn_53 : decode cX6_lightOn 53 = .ok (.ireturn, 1) := by decide +kernel
theorem dX6_usedOn_0 : decode cX6_usedOn 0 = .ok (.iconst 0, 1) := by decide +kernel
theorem dX6_usedOn_1 : decode cX6_usedOn 1 = .ok (.istore_n 2, 1) := by decide +kernel
theorem dX6_usedOn_2 : decode cX6_usedOn 2 = .ok (.iconst 0, 1) := by decide +kernel
theorem dX6_usedOn_3 : decode cX6_usedOn 3 = .ok (.istore_n 3, 1) := by decide +kernel
theorem dX6_usedOn_4 : decode cX6_usedOn 4 = .ok (.iload_n 3, 1) := by decide +kernel
theorem dX6_usedOn_5 : decode cX6_usedOn 5 = .ok (.aload_n 0, 1) := by decide +kernel
theorem dX6_usedOn_6 : decode cX6_usedOn 6 = .ok (.getfield 13, 3) := by decide +kernel
theorem dX6_usedOn_9 : decode cX6_usedOn 9 = .ok (.if_icmp .ge 31, 3) := by decide +kernel
theorem dX6_usedOn_12 : decode cX6_usedOn 12 = .ok (.iload_n 2, 1) := by decide +kernel
theorem dX6_usedOn_13 : decode cX6_usedOn 13 = .ok (.aload_n 0, 1) := by decide +kernel
theorem dX6_usedOn_14 : decode cX6_usedOn 14 = .ok (.getfield 33, 3) := by decide +kernel
theorem dX6_usedOn_17 : decode cX6_usedOn 17 = .ok (.bipush 8, 2) := by decide +kernel
theorem dX6_usedOn_19 : decode cX6_usedOn 19 = .ok (.iload_n 1, 1) := by decide +kernel
theorem dX6_usedOn_20 : decode cX6_usedOn 20 = .ok (.imul, 1) := by decide +kernel
theorem dX6_usedOn_21 : decode cX6_usedOn 21 = .ok (.iload_n 3, 1) := by decide +kernel
theorem dX6_usedOn_22 : decode cX6_usedOn 22 = .ok (.iadd, 1) := by decide +kernel
theorem dX6_usedOn_23 : decode cX6_usedOn 23 = .ok (.iaload, 1) := by decide +kernel
theorem dX6_usedOn_24 : decode cX6_usedOn 24 = .ok (.ifCond .lt 7, 3) := by decide +kernel
theorem dX6_usedOn_27 : decode cX6_usedOn 27 = .ok (.iconst 1, 1) := by decide +kernel
theorem dX6_usedOn_28 : decode cX6_usedOn 28 = .ok (.goto 4, 3) := by decide +kernel
theorem dX6_usedOn_31 : decode cX6_usedOn 31 = .ok (.iconst 0, 1) := by decide +kernel
theorem dX6_usedOn_32 : decode cX6_usedOn 32 = .ok (.iadd, 1) := by decide +kernel
theorem dX6_usedOn_33 : decode cX6_usedOn 33 = .ok (.istore_n 2, 1) := by decide +kernel
theorem dX6_usedOn_34 : decode cX6_usedOn 34 = .ok (.iinc 3 1, 3) := by decide +kernel
theorem dX6_usedOn_37 : decode cX6_usedOn 37 = .ok (.goto (-33), 3) := by decide +kernel
theorem dX6_usedOn_40 : decode cX6_usedOn 40 = .ok (.iload_n 2, 1) := by decide +kernel
theorem dX6_usedOn_41 : decode cX6_usedOn 41 = .ok (.ireturn, 1) := by decide +kernel
set_option maxRecDepth 20000 in
theorem ggX6_load_X6_usedOn : GoodIn wsX6_load wsX6_usedOn := goodIn_r _ [7, 8, 9, 10, 11, 12, 13, 14, 15, 16, 17, 18, 19, 20, 21, 22, 23, 24, 25, 26, 27, 28, 29, 30, 31, 32, 33, 34, 35, 36, 37] (by decide +kernel) (by decide +kernel)
set_option maxRecDepth 20000 in
theorem gX6_load_X6_usedOn : GoodIn wsX6_load (wsV RX6 121 RX6 yX6_usedOn wsX6_usedOn) := goodIn_app (goodIn_of _ (by decide +kernel)) ggX6_load_X6_usedOn
theorem dX6_load_0 : decode cX6_load 0 = .ok (.aload_n 0, 1) := by decide +kernel
theorem dX6_load_1 : decode cX6_load 1 = .ok (.iconst 0, 1) := by decide +kernel
theorem dX6_load_2 : decode cX6_load 2 = .ok (.putfield 87, 3) := by decide +kernel
theorem dX6_load_5 : decode cX6_load 5 = .ok (.iconst 0, 1) := by decide +kernel
theorem dX6_load_6 : decode cX6_load 6 = .ok (.istore_n 1, 1) := by decide +kernel
theorem dX6_load_7 : decode cX6_load 7 = .ok (.iconst 0, 1) := by decide +kernel
theorem dX6_load_8 : decode cX6_load 8 = .ok (.istore_n 2, 1) := by decide +kernel
theorem dX6_load_9 : decode cX6_load 9 = .ok (.iload_n 2, 1) := by decide +kernel
theorem dX6_load_10 : decode cX6_load 10 = .ok (.aload_n 0, 1) := by decide +kernel
theorem dX6_load_11 : decode cX6_load 11 = .ok (.getfield 90, 3) := by decide +kernel
theorem dX6_load_14 : decode cX6_load 14 = .ok (.if_icmp .ge 28, 3) := by decide +kernel
theorem dX6_load_17 : decode cX6_load 17 = .ok (.aload_n 0, 1) := by decide +kernel
theorem dX6_load_18 : decode cX6_load 18 = .ok (.iload_n 2, 1) := by decide +kernel
theorem dX6_load_19 : decode cX6_load 19 = .ok (.invokevirtual 121, 3) := by decide +kernel
theorem dX6_load_22 : decode cX6_load 22 = .ok (.iload_n 1, 1) := by decide +kernel
theorem dX6_load_23 : decode cX6_load 23 = .ok (.if_icmp .le 11, 3) := by decide +kernel
theorem dX6_load_26 : decode cX6_load 26 = .ok (.aload_n 0, 1) := by decide +kernel
theorem dX6_load_27 : decode cX6_load 27 = .ok (.iload_n 2, 1) := by decide +kernel
theorem dX6_load_28 : decode cX6_load 28 = .ok (.invokevirtual 121, 3) := by decide +kernel
theorem dX6_load_31 : decode cX6_load 31 = .ok (.goto 4, 3) := by decide +kernel
theorem dX6_load_34 : decode cX6_load 34 = .ok (.iload_n 1, 1) := by decide +kernel
theorem dX6_load_35 : decode cX6_load 35 = .ok (.istore_n 1, 1) := by decide +kernel
theorem dX6_load_36 : decode cX6_load 36 = .ok (.iinc 2 1, 3) := by decide +kernel
theorem dX6_load_39 : decode cX6_load 39 = .ok (.goto (-30), 3) := by decide +kernel
theorem dX6_load_42 : decode cX6_load 42 = .ok (.iload_n 1, 1) := by decide +kernel
theorem dX6_load_43 : decode cX6_load 43 = .ok (.ireturn, 1) := by decide +kernel
set_option maxRecDepth 20000 in
theorem ggX6_usage_X6_holds : GoodIn wsX6_usage wsX6_holds := goodIn_r _ [7, 8, 14, 15, 16, 17, 18, 19, 20, 21, 22, 23, 24, 25, 26, 27, 28, 29, 30, 31, 32, 33, 34, 35, 36, 37, 38, 39, 40, 41] (by decide +kernel) (by decide +kernel)
set_option maxRecDepth 20000 in
theorem gX6_usage_X6_holds : GoodIn wsX6_usage (wsV RX6 103 RX6 yX6_holds wsX6_holds) := goodIn_app (goodIn_of _ (by decide +kernel)) ggX6_usage_X6_holds
set_option maxRecDepth 20000 in
theorem ggX6_usage_X6_usedOn : GoodIn wsX6_usage wsX6_usedOn := goodIn_r _ [12, 2, 13, 14, 15, 16, 17, 18, 19, 20, 21, 22, 23, 24, 25, 26, 27, 28, 29, 30, 31, 32, 33, 34, 35, 36, 37, 38, 39, 40, 41] (by decide +kernel) (by decide +kernel)
set_option maxRecDepth 20000 in
theorem gX6_usage_X6_usedOn : GoodIn wsX6_usage (wsV RX6 121 RX6 yX6_usedOn wsX6_usedOn) := goodIn_app (goodIn_of _ (by decide +kernel)) ggX6_usage_X6_usedOn
theorem dX6_usage_0 : decode cX6_usage 0 = .ok (.aload_n 0, 1) := by decide +kernel
theorem dX6_usage_1 : decode cX6_usage 1 = .ok (.aload_n 0, 1) := by decide +kernel
theorem dX6_usage_2 : decode cX6_usage 2 = .ok (.getfield 90, 3) := by decide +kernel
theorem dX6_usage_5 : decode cX6_usage 5 = .ok (.ifCond .ne 7, 3) := by decide +kernel
theorem dX6_usage_8 : decode cX6_usage 8 = .ok (.iconst 1, 1) := by decide +kernel
theorem dX6_usage_9 : decode cX6_usage 9 = .ok (.goto 4, 3) := by decide +kernel
theorem dX6_usage_12 : decode cX6_usage 12 = .ok (.iconst 0, 1) := by decide +kernel
theorem dX6_usage_13 : decode cX6_usage 13 = .ok (.invokevirtual 103, 3) := by decide +kernel
theorem dX6_usage_16 : decode cX6_usage 16 = .ok (.ifCond .ne 5, 3) := by decide +kernel
theorem dX6_usage_19 : decode cX6_usage 19 = .ok (.fconst 0, 1) := by decide +kernel
theorem dX6_usage_20 : decode cX6_usage 20 = .ok (.freturn, 1) := by decide +kernel
theorem dX6_usage_21 : decode cX6_usage 21 = .ok (.iconst 0, 1) := by decide +kernel
theorem dX6_usage_22 : decode cX6_usage 22 = .ok (.istore_n 1, 1) := by decide +kernel
theorem dX6_usage_23 : decode cX6_usage 23 = .ok (.iconst 0, 1) := by decide +kernel
theorem dX6_usage_24 : decode cX6_usage 24 = .ok (.istore_n 2, 1) := by decide +kernel
theorem dX6_usage_25 : decode cX6_usage 25 = .ok (.iload_n 2, 1) := by decide +kernel
theorem dX6_usage_26 : decode cX6_usage 26 = .ok (.aload_n 0, 1) := by decide +kernel
theorem dX6_usage_27 : decode cX6_usage 27 = .ok (.getfield 90, 3) := by decide +kernel
theorem dX6_usage_30 : decode cX6_usage 30 = .ok (.if_icmp .ge 17, 3) := by decide +kernel
theorem dX6_usage_33 : decode cX6_usage 33 = .ok (.iload_n 1, 1) := by decide +kernel
theorem dX6_usage_34 : decode cX6_usage 34 = .ok (.aload_n 0, 1) := by decide +kernel
theorem dX6_usage_35 : decode cX6_usage 35 = .ok (.iload_n 2, 1) := by decide +kernel
theorem dX6_usage_36 : decode cX6_usage 36 = .ok (.invokevirtual 121, 3) := by decide +kernel
theorem dX6_usage_39 : decode cX6_usage 39 = .ok (.iadd, 1) := by decide +kernel
theorem dX6_usage_40 : decode cX6_usage 40 = .ok (.istore_n 1, 1) := by decide +kernel
theorem dX6_usage_41 : decode cX6_usage 41 = .ok (.iinc 2 1, 3) := by decide +kernel
theorem dX6_usage_44 : decode cX6_usage 44 = .ok (.goto (-19), 3) := by decide +kernel
theorem dX6_usage_47 : decode cX6_usage 47 = .ok (.iload_n 1, 1) := by decide +kernel
theorem dX6_usage_48 : decode cX6_usage 48 = .ok (.i2f, 1) := by decide +kernel
theorem dX6_usage_49 : decode cX6_usage 49 = .ok (.aload_n 0, 1) := by decide +kernel
theorem dX6_usage_50 : decode cX6_usage 50 = .ok (.getfield 90, 3) := by decide +kernel
theorem dX6_usage_53 : decode cX6_usage 53 = .ok (.aload_n 0, 1) := by decide +kernel
theorem dX6_usage_54 : decode cX6_usage 54 = .ok (.getfield 13, 3) := by decide +kernel
theorem dX6_usage_57 : decode cX6_usage 57 = .ok (.imul, 1) := by decide +kernel
theorem dX6_usage_58 : decode cX6_usage 58 = .ok (.i2f, 1) := by decide +kernel
theorem dX6_usage_59 : decode cX6_usage 59 = .ok (.fdiv, 1) := by decide +kernel
theorem dX6_usage_60 : decode cX6_usage 60 = .ok (.freturn, 1) := by decide +kernel
theorem dX6_sets_0 : decode cX6_sets 0 = .ok (.aload_n 0, 1) := by decide +kernel
theorem dX6_sets_1 : decode cX6_sets 1 = .ok (.iconst 0, 1) := by decide +kernel
theorem dX6_sets_2 : decode cX6_sets 2 = .ok (.iconst 0, 1) := by decide +kernel
theorem dX6_sets_3 : decode cX6_sets 3 = .ok (.iastore, 1) := by decide +kernel
theorem dX6_sets_4 : decode cX6_sets 4 = .ok (.aload_n 0, 1) := by decide +kernel
theorem dX6_sets_5 : decode cX6_sets 5 = .ok (.iconst 1, 1) := by decide +kernel
theorem dX6_sets_6 : decode cX6_sets 6 = .ok (.iconst 1, 1) := by decide +kernel
theorem dX6_sets_7 : decode cX6_sets 7 = .ok (.iload_n 1, 1) := by decide +kernel
theorem dX6_sets_8 : decode cX6_sets 8 = .ok (.ishl, 1) := by decide +kernel
theorem dX6_sets_9 : decode cX6_sets 9 = .ok (.iastore, 1) := by decide +kernel
theorem dX6_sets_10 : decode cX6_sets 10 = .ok (.aload_n 0, 1) := by decide +kernel
theorem dX6_sets_11 : decode cX6_sets 11 = .ok (.bipush 10, 2) := by decide +kernel
theorem dX6_sets_13 : decode cX6_sets 13 = .ok (.iload_n 1, 1) := by decide +kernel
theorem dX6_sets_14 : decode cX6_sets 14 = .ok (.iastore, 1) := by decide +kernel
theorem dX6_sets_15 : decode cX6_sets 15 = .ok (.aload_n 0, 1) := by decide +kernel
theorem dX6_sets_16 : decode cX6_sets 16 = .ok (.bipush 18, 2) := by decide +kernel
theorem dX6_sets_18 : decode cX6_sets 18 = .ok (.iconst 0, 1) := by decide +kernel
theorem dX6_sets_19 : decode cX6_sets 19 = .ok (.iastore, 1) := by decide +kernel
theorem dX6_sets_20 : decode cX6_sets 20 = .ok (.return_, 1) := by decide +kernel
set_option maxRecDepth 20000 in
theorem ggX6_goesOn_X6_isStep : GoodIn wsX6_goesOn wsX6_isStep := goodIn_r _ [8, 2, 3, 9, 10, 11, 12, 13, 14, 15, 16, 17, 18, 19, 20, 21, 22, 23, 24, 25, 26, 27, 28, 29, 30, 31, 32, 33, 34, 35, 36] (by decide +kernel) (by decide +kernel)
set_option maxRecDepth 20000 in
theorem gX6_goesOn_X6_isStep : GoodIn wsX6_goesOn (wsV RX6 125 RX6 yX6_isStep wsX6_isStep) := goodIn_app (goodIn_of _ (by decide +kernel)) ggX6_goesOn_X6_isStep
theorem dX6_goesOn_0 : decode cX6_goesOn 0 = .ok (.aload_n 1, 1) := by decide +kernel
theorem dX6_goesOn_1 : decode cX6_goesOn 1 = .ok (.iconst 0, 1) := by decide +kernel
theorem dX6_goesOn_2 : decode cX6_goesOn 2 = .ok (.iaload, 1) := by decide +kernel
theorem dX6_goesOn_3 : decode cX6_goesOn 3 = .ok (.ifCond .lt 163, 3) := by decide +kernel
theorem dX6_goesOn_6 : decode cX6_goesOn 6 = .ok (.aload_n 1, 1) := by decide +kernel
theorem dX6_goesOn_7 : decode cX6_goesOn 7 = .ok (.iconst 0, 1) := by decide +kernel
theorem dX6_goesOn_8 : decode cX6_goesOn 8 = .ok (.iaload, 1) := by decide +kernel
theorem dX6_goesOn_9 : decode cX6_goesOn 9 = .ok (.istore 4, 2) := by decide +kernel
theorem dX6_goesOn_11 : decode cX6_goesOn 11 = .ok (.aload_n 1, 1) := by decide +kernel
theorem dX6_goesOn_12 : decode cX6_goesOn 12 = .ok (.bipush 18, 2) := by decide +kernel
theorem dX6_goesOn_14 : decode cX6_goesOn 14 = .ok (.iload 4, 2) := by decide +kernel
theorem dX6_goesOn_16 : decode cX6_goesOn 16 = .ok (.iadd, 1) := by decide +kernel
theorem dX6_goesOn_17 : decode cX6_goesOn 17 = .ok (.iaload, 1) := by decide +kernel
theorem dX6_goesOn_18 : decode cX6_goesOn 18 = .ok (.istore 5, 2) := by decide +kernel
theorem dX6_goesOn_20 : decode cX6_goesOn 20 = .ok (.aload_n 1, 1) := by decide +kernel
theorem dX6_goesOn_21 : decode cX6_goesOn 21 = .ok (.bipush 18, 2) := by decide +kernel
theorem dX6_goesOn_23 : decode cX6_goesOn 23 = .ok (.iload 4, 2) := by decide +kernel
theorem dX6_goesOn_25 : decode cX6_goesOn 25 = .ok (.iadd, 1) := by decide +kernel
theorem dX6_goesOn_26 : decode cX6_goesOn 26 = .ok (.dup2, 1) := by decide +kernel
theorem dX6_goesOn_27 : decode cX6_goesOn 27 = .ok (.iaload, 1) := by decide +kernel
theorem dX6_goesOn_28 : decode cX6_goesOn 28 = .ok (.iconst 1, 1) := by decide +kernel
theorem dX6_goesOn_29 : decode cX6_goesOn 29 = .ok (.iadd, 1) := by decide +kernel
theorem dX6_goesOn_30 : decode cX6_goesOn 30 = .ok (.iastore, 1) := by decide +kernel
theorem dX6_goesOn_31 : decode cX6_goesOn 31 = .ok (.iload 5, 2) := by decide +kernel
theorem dX6_goesOn_33 : decode cX6_goesOn 33 = .ok (.aload_n 0, 1) := by decide +kernel
theorem dX6_goesOn_34 : decode cX6_goesOn 34 = .ok (.getfield 90, 3) := by decide +kernel
theorem dX6_goesOn_37 : decode cX6_goesOn 37 = .ok (.if_icmp .ne 28, 3) := by decide +kernel
theorem dX6_goesOn_40 : decode cX6_goesOn 40 = .ok (.aload_n 1, 1) := by decide +kernel
theorem dX6_goesOn_41 : decode cX6_goesOn 41 = .ok (.iconst 1, 1) := by decide +kernel
theorem dX6_goesOn_42 : decode cX6_goesOn 42 = .ok (.dup2, 1) := by decide +kernel
theorem dX6_goesOn_43 : decode cX6_goesOn 43 = .ok (.iaload, 1) := by decide +kernel
theorem dX6_goesOn_44 : decode cX6_goesOn 44 = .ok (.iconst 1, 1) := by decide +kernel
theorem dX6_goesOn_45 : decode cX6_goesOn 45 = .ok (.aload_n 1, 1) := by decide +kernel
theorem dX6_goesOn_46 : decode cX6_goesOn 46 = .ok (.bipush 10, 2) := by decide +kernel
theorem dX6_goesOn_48 : decode cX6_goesOn 48 = .ok (.iload 4, 2) := by decide +kernel
theorem dX6_goesOn_50 : decode cX6_goesOn 50 = .ok (.iadd, 1) := by decide +kernel
theorem dX6_goesOn_51 : decode cX6_goesOn 51 = .ok (.iaload, 1) := by decide +kernel
theorem dX6_goesOn_52 : decode cX6_goesOn 52 = .ok (.ishl, 1) := by decide +kernel
theorem dX6_goesOn_53 : decode cX6_goesOn 53 = .ok (.ixor, 1) := by decide +kernel
theorem dX6_goesOn_54 : decode cX6_goesOn 54 = .ok (.iastore, 1) := by decide +kernel
theorem dX6_goesOn_55 : decode cX6_goesOn 55 = .ok (.aload_n 1, 1) := by decide +kernel
theorem dX6_goesOn_56 : decode cX6_goesOn 56 = .ok (.iconst 0, 1) := by decide +kernel
theorem dX6_goesOn_57 : decode cX6_goesOn 57 = .ok (.dup2, 1) := by decide +kernel
theorem dX6_goesOn_58 : decode cX6_goesOn 58 = .ok (.iaload, 1) := by decide +kernel
theorem dX6_goesOn_59 : decode cX6_goesOn 59 = .ok (.iconst 1, 1) := by decide +kernel
theorem dX6_goesOn_60 : decode cX6_goesOn 60 = .ok (.isub, 1) := by decide +kernel
theorem dX6_goesOn_61 : decode cX6_goesOn 61 = .ok (.iastore, 1) := by decide +kernel
theorem dX6_goesOn_62 : decode cX6_goesOn 62 = .ok (.goto 101, 3) := by decide +kernel
theorem dX6_goesOn_65 : decode cX6_goesOn 65 = .ok (.iload_n 3, 1) := by decide +kernel
theorem dX6_goesOn_66 : decode cX6_goesOn 66 = .ok (.iload 5, 2) := by decide +kernel
theorem dX6_goesOn_68 : decode cX6_goesOn 68 = .ok (.ishr, 1) := by decide +kernel
theorem dX6_goesOn_69 : decode cX6_goesOn 69 = .ok (.iconst 1, 1) := by decide +kernel
theorem dX6_goesOn_70 : decode cX6_goesOn 70 = .ok (.iand, 1) := by decide +kernel
theorem dX6_goesOn_71 : decode cX6_goesOn 71 = .ok (.ifCond .ne 92, 3) := by decide +kernel
theorem dX6_goesOn_74 : decode cX6_goesOn 74 = .ok (.aload_n 0, 1) := by decide +kernel
theorem dX6_goesOn_75 : decode cX6_goesOn 75 = .ok (.aload_n 1, 1) := by decide +kernel
theorem dX6_goesOn_76 : decode cX6_goesOn 76 = .ok (.iload 5, 2) := by decide +kernel
theorem dX6_goesOn_78 : decode cX6_goesOn 78 = .ok (.invokevirtual 125, 3) := by decide +kernel
theorem dX6_goesOn_81 : decode cX6_goesOn 81 = .ok (.ifCond .eq 82, 3) := by decide +kernel
theorem dX6_goesOn_84 : decode cX6_goesOn 84 = .ok (.aload_n 0, 1) := by decide +kernel
theorem dX6_goesOn_85 : decode cX6_goesOn 85 = .ok (.getfield 20, 3) := by decide +kernel
theorem dX6_goesOn_88 : decode cX6_goesOn 88 = .ok (.iload 5, 2) := by decide +kernel
theorem dX6_goesOn_90 : decode cX6_goesOn 90 = .ok (.iaload, 1) := by decide +kernel
theorem dX6_goesOn_91 : decode cX6_goesOn 91 = .ok (.aload_n 0, 1) := by decide +kernel
theorem dX6_goesOn_92 : decode cX6_goesOn 92 = .ok (.getfield 24, 3) := by decide +kernel
theorem dX6_goesOn_95 : decode cX6_goesOn 95 = .ok (.iload 5, 2) := by decide +kernel
theorem dX6_goesOn_97 : decode cX6_goesOn 97 = .ok (.iaload, 1) := by decide +kernel
theorem dX6_goesOn_98 : decode cX6_goesOn 98 = .ok (.iadd, 1) := by decide +kernel
theorem dX6_goesOn_99 : decode cX6_goesOn 99 = .ok (.aload_n 1, 1) := by decide +kernel
theorem dX6_goesOn_100 : decode cX6_goesOn 100 = .ok (.bipush 10, 2) := by decide +kernel
theorem dX6_goesOn_102 : decode cX6_goesOn 102 = .ok (.iload 4, 2) := by decide +kernel
theorem dX6_goesOn_104 : decode cX6_goesOn 104 = .ok (.iadd, 1) := by decide +kernel
theorem dX6_goesOn_105 : decode cX6_goesOn 105 = .ok (.iaload, 1) := by decide +kernel
theorem dX6_goesOn_106 : decode cX6_goesOn 106 = .ok (.isub, 1) := by decide +kernel
theorem dX6_goesOn_107 : decode cX6_goesOn 107 = .ok (.istore 6, 2) := by decide +kernel
theorem dX6_goesOn_109 : decode cX6_goesOn 109 = .ok (.aload_n 1, 1) := by decide +kernel
theorem dX6_goesOn_110 : decode cX6_goesOn 110 = .ok (.iconst 2, 1) := by decide +kernel
theorem dX6_goesOn_111 : decode cX6_goesOn 111 = .ok (.iload 4, 2) := by decide +kernel
theorem dX6_goesOn_113 : decode cX6_goesOn 113 = .ok (.iadd, 1) := by decide +kernel
theorem dX6_goesOn_114 : decode cX6_goesOn 114 = .ok (.iload 5, 2) := by decide +kernel
theorem dX6_goesOn_116 : decode cX6_goesOn 116 = .ok (.iastore, 1) := by decide +kernel
theorem dX6_goesOn_117 : decode cX6_goesOn 117 = .ok (.iload 6, 2) := by decide +kernel
theorem dX6_goesOn_119 : decode cX6_goesOn 119 = .ok (.iload_n 2, 1) := by decide +kernel
theorem dX6_goesOn_120 : decode cX6_goesOn 120 = .ok (.if_icmp .ne 5, 3) := by decide +kernel
theorem dX6_goesOn_123 : decode cX6_goesOn 123 = .ok (.iconst 1, 1) := by decide +kernel
theorem dX6_goesOn_124 : decode cX6_goesOn 124 = .ok (.ireturn, 1) := by decide +kernel
theorem dX6_goesOn_125 : decode cX6_goesOn 125 = .ok (.aload_n 1, 1) := by decide +kernel
theorem dX6_goesOn_126 : decode cX6_goesOn 126 = .ok (.iconst 0, 1) := by decide +kernel
theorem dX6_goesOn_127 : decode cX6_goesOn 127 = .ok (.dup2, 1) := by decide +kernel
theorem dX6_goesOn_128 : decode cX6_goesOn 128 = .ok (.iaload, 1) := by decide +kernel
theorem dX6_goesOn_129 : decode cX6_goesOn 129 = .ok (.iconst 1, 1) := by decide +kernel
theorem dX6_goesOn_130 : decode cX6_goesOn 130 = .ok (.iadd, 1) := by decide +kernel
theorem dX6_goesOn_131 : decode cX6_goesOn 131 = .ok (.iastore, 1) := by decide +kernel
theorem dX6_goesOn_132 : decode cX6_goesOn 132 = .ok (.aload_n 1, 1) := by decide +kernel
theorem dX6_goesOn_133 : decode cX6_goesOn 133 = .ok (.iconst 1, 1) := by decide +kernel
theorem dX6_goesOn_134 : decode cX6_goesOn 134 = .ok (.dup2, 1) := by decide +kernel
theorem dX6_goesOn_135 : decode cX6_goesOn 135 = .ok (.iaload, 1) := by decide +kernel
theorem dX6_goesOn_136 : decode cX6_goesOn 136 = .ok (.iconst 1, 1) := by decide +kernel
theorem dX6_goesOn_137 : decode cX6_goesOn 137 = .ok (.iload 6, 2) := by decide +kernel
theorem dX6_goesOn_139 : decode cX6_goesOn 139 = .ok (.ishl, 1) := by decide +kernel
theorem dX6_goesOn_140 : decode cX6_goesOn 140 = .ok (.ior, 1) := by decide +kernel
theorem dX6_goesOn_141 : decode cX6_goesOn 141 = .ok (.iastore, 1) := by decide +kernel
theorem dX6_goesOn_142 : decode cX6_goesOn 142 = .ok (.aload_n 1, 1) := by decide +kernel
theorem dX6_goesOn_143 : decode cX6_goesOn 143 = .ok (.bipush 10, 2) := by decide +kernel
theorem dX6_goesOn_145 : decode cX6_goesOn 145 = .ok (.iload 4, 2) := by decide +kernel
theorem dX6_goesOn_147 : decode cX6_goesOn 147 = .ok (.iadd, 1) := by decide +kernel
theorem dX6_goesOn_148 : decode cX6_goesOn 148 = .ok (.iconst 1, 1) := by decide +kernel
theorem dX6_goesOn_149 : decode cX6_goesOn 149 = .ok (.iadd, 1) := by decide +kernel
theorem dX6_goesOn_150 : decode cX6_goesOn 150 = .ok (.iload 6, 2) := by decide +kernel
theorem dX6_goesOn_152 : decode cX6_goesOn 152 = .ok (.iastore, 1) := by decide +kernel
theorem dX6_goesOn_153 : decode cX6_goesOn 153 = .ok (.aload_n 1, 1) := by decide +kernel
theorem dX6_goesOn_154 : decode cX6_goesOn 154 = .ok (.bipush 18, 2) := by decide +kernel
theorem dX6_goesOn_156 : decode cX6_goesOn 156 = .ok (.iload 4, 2) := by decide +kernel
theorem dX6_goesOn_158 : decode cX6_goesOn 158 = .ok (.iadd, 1) := by decide +kernel
theorem dX6_goesOn_159 : decode cX6_goesOn 159 = .ok (.iconst 1, 1) := by decide +kernel
theorem dX6_goesOn_160 : decode cX6_goesOn 160 = .ok (.iadd, 1) := by decide +kernel
theorem dX6_goesOn_161 : decode cX6_goesOn 161 = .ok (.iconst 0, 1) := by decide +kernel
theorem dX6_goesOn_162 : decode cX6_goesOn 162 = .ok (.iastore, 1) := by decide +kernel
theorem dX6_goesOn_163 : decode cX6_goesOn 163 = .ok (.goto (-163), 3) := by decide +kernel
theorem dX6_goesOn_166 : decode cX6_goesOn 166 = .ok (.iconst 0, 1) := by decide +kernel
theorem dX6_goesOn_167 : decode cX6_goesOn 167 = .ok (.ireturn, 1) := by decide +kernel
theorem dX6_isStep_0 : decode cX6_isStep 0 = .ok (.aload_n 1, 1) := by decide +kernel
theorem dX6_isStep_1 : decode cX6_isStep 1 = .ok (.bipush 10, 2) := by decide +kernel
theorem dX6_isStep_3 : decode cX6_isStep 3 = .ok (.aload_n 1, 1) := by decide +kernel
theorem dX6_isStep_4 : decode cX6_isStep 4 = .ok (.iconst 0, 1) := by decide +kernel
theorem dX6_isStep_5 : decode cX6_isStep 5 = .ok (.iaload, 1) := by decide +kernel
theorem dX6_isStep_6 : decode cX6_isStep 6 = .ok (.iadd, 1) := by decide +kernel
theorem dX6_isStep_7 : decode cX6_isStep 7 = .ok (.iaload, 1) := by decide +kernel
theorem dX6_isStep_8 : decode cX6_isStep 8 = .ok (.istore_n 3, 1) := by decide +kernel
theorem dX6_isStep_9 : decode cX6_isStep 9 = .ok (.aload_n 0, 1) := by decide +kernel
theorem dX6_isStep_10 : decode cX6_isStep 10 = .ok (.getfield 20, 3) := by decide +kernel
theorem dX6_isStep_13 : decode cX6_isStep 13 = .ok (.iload_n 2, 1) := by decide +kernel
theorem dX6_isStep_14 : decode cX6_isStep 14 = .ok (.iaload, 1) := by decide +kernel
theorem dX6_isStep_15 : decode cX6_isStep 15 = .ok (.iload_n 3, 1) := by decide +kernel
theorem dX6_isStep_16 : decode cX6_isStep 16 = .ok (.if_icmp .eq 15, 3) := by decide +kernel
theorem dX6_isStep_19 : decode cX6_isStep 19 = .ok (.aload_n 0, 1) := by decide +kernel
theorem dX6_isStep_20 : decode cX6_isStep 20 = .ok (.getfield 24, 3) := by decide +kernel
theorem dX6_isStep_23 : decode cX6_isStep 23 = .ok (.iload_n 2, 1) := by decide +kernel
theorem dX6_isStep_24 : decode cX6_isStep 24 = .ok (.iaload, 1) := by decide +kernel
theorem dX6_isStep_25 : decode cX6_isStep 25 = .ok (.iload_n 3, 1) := by decide +kernel
theorem dX6_isStep_26 : decode cX6_isStep 26 = .ok (.if_icmp .eq 5, 3) := by decide +kernel
theorem dX6_isStep_29 : decode cX6_isStep 29 = .ok (.iconst 0, 1) := by decide +kernel
theorem dX6_isStep_30 : decode cX6_isStep 30 = .ok (.ireturn, 1) := by decide +kernel
theorem dX6_isStep_31 : decode cX6_isStep 31 = .ok (.aload_n 1, 1) := by decide +kernel
theorem dX6_isStep_32 : decode cX6_isStep 32 = .ok (.iconst 1, 1) := by decide +kernel
theorem dX6_isStep_33 : decode cX6_isStep 33 = .ok (.iaload, 1) := by decide +kernel
theorem dX6_isStep_34 : decode cX6_isStep 34 = .ok (.aload_n 0, 1) := by decide +kernel
theorem dX6_isStep_35 : decode cX6_isStep 35 = .ok (.getfield 20, 3) := by decide +kernel
theorem dX6_isStep_38 : decode cX6_isStep 38 = .ok (.iload_n 2, 1) := by decide +kernel
theorem dX6_isStep_39 : decode cX6_isStep 39 = .ok (.iaload, 1) := by decide +kernel
theorem dX6_isStep_40 : decode cX6_isStep 40 = .ok (.aload_n 0, 1) := by decide +kernel
theorem dX6_isStep_41 : decode cX6_isStep 41 = .ok (.getfield 24, 3) := by decide +kernel
theorem dX6_isStep_44 : decode cX6_isStep 44 = .ok (.iload_n 2, 1) := by decide +kernel
theorem dX6_isStep_45 : decode cX6_isStep 45 = .ok (.iaload, 1) := by decide +kernel
theorem dX6_isStep_46 : decode cX6_isStep 46 = .ok (.iadd, 1) := by decide +kernel
theorem dX6_isStep_47 : decode cX6_isStep 47 = .ok (.iload_n 3, 1) := by decide +kernel
theorem dX6_isStep_48 : decode cX6_isStep 48 = .ok (.isub, 1) := by decide +kernel
theorem dX6_isStep_49 : decode cX6_isStep 49 = .ok (.ishr, 1) := by decide +kernel
theorem dX6_isStep_50 : decode cX6_isStep 50 = .ok (.iconst 1, 1) := by decide +kernel
theorem dX6_isStep_51 : decode cX6_isStep 51 = .ok (.iand, 1) := by decide +kernel
theorem dX6_isStep_52 : decode cX6_isStep 52 = .ok (.ifCond .ne 7, 3) := by decide +kernel
theorem dX6_isStep_55 : decode cX6_isStep 55 = .ok (.iconst 1, 1) := by decide +kernel
theorem dX6_isStep_56 : decode cX6_isStep 56 = .ok (.goto 4, 3) := by decide +kernel
theorem dX6_isStep_59 : decode cX6_isStep 59 = .ok (.iconst 0, 1) := by decide +kernel
theorem dX6_isStep_60 : decode cX6_isStep 60 = .ok (.ireturn, 1) := by decide +kernel
theorem dX6_free_0 : decode cX6_free 0 = .ok (.iconst 0, 1) := by decide +kernel
theorem dX6_free_1 : decode cX6_free 1 = .ok (.istore_n 3, 1) := by decide +kernel
theorem dX6_free_2 : decode cX6_free 2 = .ok (.iconst 0, 1) := by decide +kernel
theorem dX6_free_3 : decode cX6_free 3 = .ok (.istore 4, 2) := by decide +kernel
theorem dX6_free_5 : decode cX6_free 5 = .ok (.iload 4, 2) := by decide +kernel
theorem dX6_free_7 : decode cX6_free 7 = .ok (.aload_n 0, 1) := by decide +kernel
theorem dX6_free_8 : decode cX6_free 8 = .ok (.getfield 13, 3) := by decide +kernel
theorem dX6_free_11 : decode cX6_free 11 = .ok (.if_icmp .ge 55, 3) := by decide +kernel
theorem dX6_free_14 : decode cX6_free 14 = .ok (.aload_n 0, 1) := by decide +kernel
theorem dX6_free_15 : decode cX6_free 15 = .ok (.getfield 33, 3) := by decide +kernel
theorem dX6_free_18 : decode cX6_free 18 = .ok (.bipush 8, 2) := by decide +kernel
theorem dX6_free_20 : decode cX6_free 20 = .ok (.iload_n 1, 1) := by decide +kernel
theorem dX6_free_21 : decode cX6_free 21 = .ok (.imul, 1) := by decide +kernel
theorem dX6_free_22 : decode cX6_free 22 = .ok (.iload 4, 2) := by decide +kernel
theorem dX6_free_24 : decode cX6_free 24 = .ok (.iadd, 1) := by decide +kernel
theorem dX6_free_25 : decode cX6_free 25 = .ok (.iaload, 1) := by decide +kernel
theorem dX6_free_26 : decode cX6_free 26 = .ok (.istore 5, 2) := by decide +kernel
theorem dX6_free_28 : decode cX6_free 28 = .ok (.iload_n 3, 1) := by decide +kernel
theorem dX6_free_29 : decode cX6_free 29 = .ok (.aload_n 0, 1) := by decide +kernel
theorem dX6_free_30 : decode cX6_free 30 = .ok (.getfield 30, 3) := by decide +kernel
theorem dX6_free_33 : decode cX6_free 33 = .ok (.iload_n 1, 1) := by decide +kernel
theorem dX6_free_34 : decode cX6_free 34 = .ok (.baload, 1) := by decide +kernel
theorem dX6_free_35 : decode cX6_free 35 = .ok (.ifCond .ne 22, 3) := by decide +kernel
theorem dX6_free_38 : decode cX6_free 38 = .ok (.iload 5, 2) := by decide +kernel
theorem dX6_free_40 : decode cX6_free 40 = .ok (.iconst (-1), 1) := by decide +kernel
theorem dX6_free_41 : decode cX6_free 41 = .ok (.if_icmp .eq 9, 3) := by decide +kernel
theorem dX6_free_44 : decode cX6_free 44 = .ok (.iload 5, 2) := by decide +kernel
theorem dX6_free_46 : decode cX6_free 46 = .ok (.iload_n 2, 1) := by decide +kernel
theorem dX6_free_47 : decode cX6_free 47 = .ok (.if_icmp .ne 10, 3) := by decide +kernel
theorem dX6_free_50 : decode cX6_free 50 = .ok (.iconst 1, 1) := by decide +kernel
theorem dX6_free_51 : decode cX6_free 51 = .ok (.iload 4, 2) := by decide +kernel
theorem dX6_free_53 : decode cX6_free 53 = .ok (.ishl, 1) := by decide +kernel
theorem dX6_free_54 : decode cX6_free 54 = .ok (.goto 4, 3) := by decide +kernel
theorem dX6_free_57 : decode cX6_free 57 = .ok (.iconst 0, 1) := by decide +kernel
theorem dX6_free_58 : decode cX6_free 58 = .ok (.ior, 1) := by decide +kernel
theorem dX6_free_59 : decode cX6_free 59 = .ok (.istore_n 3, 1) := by decide +kernel
theorem dX6_free_60 : decode cX6_free 60 = .ok (.iinc 4 1, 3) := by decide +kernel
theorem dX6_free_63 : decode cX6_free 63 = .ok (.goto (-58), 3) := by decide +kernel
theorem dX6_free_66 : decode cX6_free 66 = .ok (.iload_n 3, 1) := by decide +kernel
theorem dX6_free_67 : decode cX6_free 67 = .ok (.ireturn, 1) := by decide +kernel
theorem dX6_cost_0 : decode cX6_cost 0 = .ok (.iload_n 2, 1) := by decide +kernel
theorem dX6_cost_1 : decode cX6_cost 1 = .ok (.iload_n 3, 1) := by decide +kernel
theorem dX6_cost_2 : decode cX6_cost 2 = .ok (.if_icmp .ne 7, 3) := by decide +kernel
theorem dX6_cost_5 : decode cX6_cost 5 = .ok (.iconst 0, 1) := by decide +kernel
theorem dX6_cost_6 : decode cX6_cost 6 = .ok (.goto 18, 3) := by decide +kernel
theorem dX6_cost_9 : decode cX6_cost 9 = .ok (.aload_n 0, 1) := by decide +kernel
theorem dX6_cost_10 : decode cX6_cost 10 = .ok (.getfield 72, 3) := by decide +kernel
theorem dX6_cost_13 : decode cX6_cost 13 = .ok (.bipush 8, 2) := by decide +kernel
theorem dX6_cost_15 : decode cX6_cost 15 = .ok (.iload_n 2, 1) := by decide +kernel
theorem dX6_cost_16 : decode cX6_cost 16 = .ok (.imul, 1) := by decide +kernel
theorem dX6_cost_17 : decode cX6_cost 17 = .ok (.bipush 8, 2) := by decide +kernel
theorem dX6_cost_19 : decode cX6_cost 19 = .ok (.iadd, 1) := by decide +kernel
theorem dX6_cost_20 : decode cX6_cost 20 = .ok (.iload 4, 2) := by decide +kernel
theorem dX6_cost_22 : decode cX6_cost 22 = .ok (.iadd, 1) := by decide +kernel
theorem dX6_cost_23 : decode cX6_cost 23 = .ok (.iaload, 1) := by decide +kernel
theorem dX6_cost_24 : decode cX6_cost 24 = .ok (.istore 5, 2) := by decide +kernel
theorem dX6_cost_26 : decode cX6_cost 26 = .ok (.iconst 0, 1) := by decide +kernel
theorem dX6_cost_27 : decode cX6_cost 27 = .ok (.istore 6, 2) := by decide +kernel
theorem dX6_cost_29 : decode cX6_cost 29 = .ok (.iload 6, 2) := by decide +kernel
theorem dX6_cost_31 : decode cX6_cost 31 = .ok (.aload_n 0, 1) := by decide +kernel
theorem dX6_cost_32 : decode cX6_cost 32 = .ok (.getfield 13, 3) := by decide +kernel
theorem dX6_cost_35 : decode cX6_cost 35 = .ok (.if_icmp .ge 65, 3) := by decide +kernel
theorem dX6_cost_38 : decode cX6_cost 38 = .ok (.iload_n 2, 1) := by decide +kernel
theorem dX6_cost_39 : decode cX6_cost 39 = .ok (.iload_n 3, 1) := by decide +kernel
theorem dX6_cost_40 : decode cX6_cost 40 = .ok (.if_icmp .ge 60, 3) := by decide +kernel
theorem dX6_cost_43 : decode cX6_cost 43 = .ok (.aload_n 0, 1) := by decide +kernel
theorem dX6_cost_44 : decode cX6_cost 44 = .ok (.getfield 72, 3) := by decide +kernel
theorem dX6_cost_47 : decode cX6_cost 47 = .ok (.bipush 8, 2) := by decide +kernel
theorem dX6_cost_49 : decode cX6_cost 49 = .ok (.iload_n 2, 1) := by decide +kernel
theorem dX6_cost_50 : decode cX6_cost 50 = .ok (.imul, 1) := by decide +kernel
theorem dX6_cost_51 : decode cX6_cost 51 = .ok (.bipush 8, 2) := by decide +kernel
theorem dX6_cost_53 : decode cX6_cost 53 = .ok (.iadd, 1) := by decide +kernel
theorem dX6_cost_54 : decode cX6_cost 54 = .ok (.iload 6, 2) := by decide +kernel
theorem dX6_cost_56 : decode cX6_cost 56 = .ok (.iadd, 1) := by decide +kernel
theorem dX6_cost_57 : decode cX6_cost 57 = .ok (.iaload, 1) := by decide +kernel
theorem dX6_cost_58 : decode cX6_cost 58 = .ok (.iconst 1, 1) := by decide +kernel
theorem dX6_cost_59 : decode cX6_cost 59 = .ok (.iadd, 1) := by decide +kernel
theorem dX6_cost_60 : decode cX6_cost 60 = .ok (.istore 7, 2) := by decide +kernel
theorem dX6_cost_62 : decode cX6_cost 62 = .ok (.aload_n 0, 1) := by decide +kernel
theorem dX6_cost_63 : decode cX6_cost 63 = .ok (.getfield 16, 3) := by decide +kernel
theorem dX6_cost_66 : decode cX6_cost 66 = .ok (.aload_n 1, 1) := by decide +kernel
theorem dX6_cost_67 : decode cX6_cost 67 = .ok (.bipush 10, 2) := by decide +kernel
theorem dX6_cost_69 : decode cX6_cost 69 = .ok (.iload_n 2, 1) := by decide +kernel
theorem dX6_cost_70 : decode cX6_cost 70 = .ok (.iadd, 1) := by decide +kernel
theorem dX6_cost_71 : decode cX6_cost 71 = .ok (.iconst 1, 1) := by decide +kernel
theorem dX6_cost_72 : decode cX6_cost 72 = .ok (.iadd, 1) := by decide +kernel
theorem dX6_cost_73 : decode cX6_cost 73 = .ok (.iaload, 1) := by decide +kernel
theorem dX6_cost_74 : decode cX6_cost 74 = .ok (.baload, 1) := by decide +kernel
theorem dX6_cost_75 : decode cX6_cost 75 = .ok (.ifCond .eq 15, 3) := by decide +kernel
theorem dX6_cost_78 : decode cX6_cost 78 = .ok (.iload 7, 2) := by decide +kernel
theorem dX6_cost_80 : decode cX6_cost 80 = .ok (.iload 5, 2) := by decide +kernel
theorem dX6_cost_82 : decode cX6_cost 82 = .ok (.if_icmp .ge 8, 3) := by decide +kernel
theorem dX6_cost_85 : decode cX6_cost 85 = .ok (.iload 7, 2) := by decide +kernel
theorem dX6_cost_87 : decode cX6_cost 87 = .ok (.goto 5, 3) := by decide +kernel
theorem dX6_cost_90 : decode cX6_cost 90 = .ok (.iload 5, 2) := by decide +kernel
theorem dX6_cost_92 : decode cX6_cost 92 = .ok (.istore 5, 2) := by decide +kernel
theorem dX6_cost_94 : decode cX6_cost 94 = .ok (.iinc 6 1, 3) := by decide +kernel
theorem dX6_cost_97 : decode cX6_cost 97 = .ok (.goto (-68), 3) := by decide +kernel
theorem dX6_cost_100 : decode cX6_cost 100 = .ok (.iload 5, 2) := by decide +kernel
theorem dX6_cost_102 : decode cX6_cost 102 = .ok (.ireturn, 1) := by decide +kernel
set_option maxRecDepth 20000 in
theorem ggX6_lays_X6_free : GoodIn wsX6_lays wsX6_free := goodIn_r _ [8, 1, 9, 10, 20, 21, 22, 23, 24, 25, 26, 27, 28, 29, 30, 31, 32, 33, 34, 35, 36, 37, 38, 39, 40, 41, 42, 43, 44, 45, 46, 47] (by decide +kernel) (by decide +kernel)
set_option maxRecDepth 20000 in
theorem gX6_lays_X6_free : GoodIn wsX6_lays (wsV RX6 129 RX6 yX6_free wsX6_free) := goodIn_app (goodIn_of _ (by decide +kernel)) ggX6_lays_X6_free
set_option maxRecDepth 20000 in
theorem ggX6_lays_X6_cost : GoodIn wsX6_lays wsX6_cost := goodIn_r _ [14, 2, 1, 15, 20, 21, 22, 23, 24, 25, 26, 27, 28, 29, 30, 31, 32, 33, 34, 35, 36, 37, 38, 39, 40, 41, 42, 43, 44, 45, 46, 47] (by decide +kernel) (by decide +kernel)
set_option maxRecDepth 20000 in
theorem gX6_lays_X6_cost : GoodIn wsX6_lays (wsV RX6 133 RX6 yX6_cost wsX6_cost) := goodIn_app (goodIn_of _ (by decide +kernel)) ggX6_lays_X6_cost
set_option maxRecDepth 20000 in
theorem ggX6_lays_X6_follows : GoodIn wsX6_lays wsX6_follows := goodIn_r _ [19, 1, 15, 2, 20, 21, 22, 23, 24, 25, 26, 27, 28, 29, 30, 31, 32, 33, 34, 35, 36, 37, 38, 39, 40, 41, 42, 43, 44, 45, 46, 47] (by decide +kernel) (by decide +kernel)
set_option maxRecDepth 20000 in
theorem gX6_lays_X6_follows : GoodIn wsX6_lays (wsV RX6 137 RX6 yX6_follows wsX6_follows) := goodIn_app (goodIn_of _ (by decide +kernel)) ggX6_lays_X6_follows
theorem dX6_lays_0 : decode cX6_lays 0 = .ok (.aload_n 1, 1) := by decide +kernel
theorem dX6_lays_1 : decode cX6_lays 1 = .ok (.iconst 0, 1) := by decide +kernel
theorem dX6_lays_2 : decode cX6_lays 2 = .ok (.iaload, 1) := by decide +kernel
theorem dX6_lays_3 : decode cX6_lays 3 = .ok (.istore 5, 2) := by decide +kernel
theorem dX6_lays_5 : decode cX6_lays 5 = .ok (.iload 5, 2) := by decide +kernel
theorem dX6_lays_7 : decode cX6_lays 7 = .ok (.istore 6, 2) := by decide +kernel
theorem dX6_lays_9 : decode cX6_lays 9 = .ok (.iload 6, 2) := by decide +kernel
theorem dX6_lays_11 : decode cX6_lays 11 = .ok (.ifCond .lt 83, 3) := by decide +kernel
theorem dX6_lays_14 : decode cX6_lays 14 = .ok (.aload_n 0, 1) := by decide +kernel
theorem dX6_lays_15 : decode cX6_lays 15 = .ok (.aload_n 1, 1) := by decide +kernel
theorem dX6_lays_16 : decode cX6_lays 16 = .ok (.iconst 2, 1) := by decide +kernel
theorem dX6_lays_17 : decode cX6_lays 17 = .ok (.iload 6, 2) := by decide +kernel
theorem dX6_lays_19 : decode cX6_lays 19 = .ok (.iadd, 1) := by decide +kernel
theorem dX6_lays_20 : decode cX6_lays 20 = .ok (.iaload, 1) := by decide +kernel
theorem dX6_lays_21 : decode cX6_lays 21 = .ok (.iload_n 2, 1) := by decide +kernel
theorem dX6_lays_22 : decode cX6_lays 22 = .ok (.invokevirtual 129, 3) := by decide +kernel
theorem dX6_lays_25 : decode cX6_lays 25 = .ok (.iload_n 3, 1) := by decide +kernel
theorem dX6_lays_26 : decode cX6_lays 26 = .ok (.iand, 1) := by decide +kernel
theorem dX6_lays_27 : decode cX6_lays 27 = .ok (.istore 7, 2) := by decide +kernel
theorem dX6_lays_29 : decode cX6_lays 29 = .ok (.iconst 0, 1) := by decide +kernel
theorem dX6_lays_30 : decode cX6_lays 30 = .ok (.istore 8, 2) := by decide +kernel
theorem dX6_lays_32 : decode cX6_lays 32 = .ok (.iload 8, 2) := by decide +kernel
theorem dX6_lays_34 : decode cX6_lays 34 = .ok (.aload_n 0, 1) := by decide +kernel
theorem dX6_lays_35 : decode cX6_lays 35 = .ok (.getfield 13, 3) := by decide +kernel
theorem dX6_lays_38 : decode cX6_lays 38 = .ok (.if_icmp .ge 50, 3) := by decide +kernel
theorem dX6_lays_41 : decode cX6_lays 41 = .ok (.aload_n 0, 1) := by decide +kernel
theorem dX6_lays_42 : decode cX6_lays 42 = .ok (.getfield 72, 3) := by decide +kernel
theorem dX6_lays_45 : decode cX6_lays 45 = .ok (.bipush 8, 2) := by decide +kernel
theorem dX6_lays_47 : decode cX6_lays 47 = .ok (.iload 6, 2) := by decide +kernel
theorem dX6_lays_49 : decode cX6_lays 49 = .ok (.imul, 1) := by decide +kernel
theorem dX6_lays_50 : decode cX6_lays 50 = .ok (.iload 8, 2) := by decide +kernel
theorem dX6_lays_52 : decode cX6_lays 52 = .ok (.iadd, 1) := by decide +kernel
theorem dX6_lays_53 : decode cX6_lays 53 = .ok (.iload 7, 2) := by decide +kernel
theorem dX6_lays_55 : decode cX6_lays 55 = .ok (.iload 8, 2) := by decide +kernel
theorem dX6_lays_57 : decode cX6_lays 57 = .ok (.ishr, 1) := by decide +kernel
theorem dX6_lays_58 : decode cX6_lays 58 = .ok (.iconst 1, 1) := by decide +kernel
theorem dX6_lays_59 : decode cX6_lays 59 = .ok (.iand, 1) := by decide +kernel
theorem dX6_lays_60 : decode cX6_lays 60 = .ok (.iconst 1, 1) := by decide +kernel
theorem dX6_lays_61 : decode cX6_lays 61 = .ok (.if_icmp .ne 17, 3) := by decide +kernel
theorem dX6_lays_64 : decode cX6_lays 64 = .ok (.aload_n 0, 1) := by decide +kernel
theorem dX6_lays_65 : decode cX6_lays 65 = .ok (.aload_n 1, 1) := by decide +kernel
theorem dX6_lays_66 : decode cX6_lays 66 = .ok (.iload 6, 2) := by decide +kernel
theorem dX6_lays_68 : decode cX6_lays 68 = .ok (.iload 5, 2) := by decide +kernel
theorem dX6_lays_70 : decode cX6_lays 70 = .ok (.iload 8, 2) := by decide +kernel
theorem dX6_lays_72 : decode cX6_lays 72 = .ok (.invokevirtual 133, 3) := by decide +kernel
theorem dX6_lays_75 : decode cX6_lays 75 = .ok (.goto 6, 3) := by decide +kernel
theorem dX6_lays_78 : decode cX6_lays 78 = .ok (.sipush 1000, 3) := by decide +kernel
theorem dX6_lays_81 : decode cX6_lays 81 = .ok (.iastore, 1) := by decide +kernel
theorem dX6_lays_82 : decode cX6_lays 82 = .ok (.iinc 8 1, 3) := by decide +kernel
theorem dX6_lays_85 : decode cX6_lays 85 = .ok (.goto (-53), 3) := by decide +kernel
theorem dX6_lays_88 : decode cX6_lays 88 = .ok (.iinc 6 (-1), 3) := by decide +kernel
theorem dX6_lays_91 : decode cX6_lays 91 = .ok (.goto (-82), 3) := by decide +kernel
theorem dX6_lays_94 : decode cX6_lays 94 = .ok (.iconst 0, 1) := by decide +kernel
theorem dX6_lays_95 : decode cX6_lays 95 = .ok (.istore 6, 2) := by decide +kernel
theorem dX6_lays_97 : decode cX6_lays 97 = .ok (.iconst 1, 1) := by decide +kernel
theorem dX6_lays_98 : decode cX6_lays 98 = .ok (.istore 7, 2) := by decide +kernel
theorem dX6_lays_100 : decode cX6_lays 100 = .ok (.iload 7, 2) := by decide +kernel
theorem dX6_lays_102 : decode cX6_lays 102 = .ok (.aload_n 0, 1) := by decide +kernel
theorem dX6_lays_103 : decode cX6_lays 103 = .ok (.getfield 13, 3) := by decide +kernel
theorem dX6_lays_106 : decode cX6_lays 106 = .ok (.if_icmp .ge 35, 3) := by decide +kernel
theorem dX6_lays_109 : decode cX6_lays 109 = .ok (.aload_n 0, 1) := by decide +kernel
theorem dX6_lays_110 : decode cX6_lays 110 = .ok (.getfield 72, 3) := by decide +kernel
theorem dX6_lays_113 : decode cX6_lays 113 = .ok (.iload 7, 2) := by decide +kernel
theorem dX6_lays_115 : decode cX6_lays 115 = .ok (.iaload, 1) := by decide +kernel
theorem dX6_lays_116 : decode cX6_lays 116 = .ok (.aload_n 0, 1) := by decide +kernel
theorem dX6_lays_117 : decode cX6_lays 117 = .ok (.getfield 72, 3) := by decide +kernel
theorem dX6_lays_120 : decode cX6_lays 120 = .ok (.iload 6, 2) := by decide +kernel
theorem dX6_lays_122 : decode cX6_lays 122 = .ok (.iaload, 1) := by decide +kernel
theorem dX6_lays_123 : decode cX6_lays 123 = .ok (.if_icmp .ge 8, 3) := by decide +kernel
theorem dX6_lays_126 : decode cX6_lays 126 = .ok (.iload 7, 2) := by decide +kernel
theorem dX6_lays_128 : decode cX6_lays 128 = .ok (.goto 5, 3) := by decide +kernel
theorem dX6_lays_131 : decode cX6_lays 131 = .ok (.iload 6, 2) := by decide +kernel
theorem dX6_lays_133 : decode cX6_lays 133 = .ok (.istore 6, 2) := by decide +kernel
theorem dX6_lays_135 : decode cX6_lays 135 = .ok (.iinc 7 1, 3) := by decide +kernel
theorem dX6_lays_138 : decode cX6_lays 138 = .ok (.goto (-38), 3) := by decide +kernel
theorem dX6_lays_141 : decode cX6_lays 141 = .ok (.aload_n 0, 1) := by decide +kernel
theorem dX6_lays_142 : decode cX6_lays 142 = .ok (.getfield 72, 3) := by decide +kernel
theorem dX6_lays_145 : decode cX6_lays 145 = .ok (.iload 6, 2) := by decide +kernel
theorem dX6_lays_147 : decode cX6_lays 147 = .ok (.iaload, 1) := by decide +kernel
theorem dX6_lays_148 : decode cX6_lays 148 = .ok (.sipush 1000, 3) := by decide +kernel
theorem dX6_lays_151 : decode cX6_lays 151 = .ok (.if_icmp .lt 5, 3) := by decide +kernel
theorem dX6_lays_154 : decode cX6_lays 154 = .ok (.iconst 0, 1) := by decide +kernel
theorem dX6_lays_155 : decode cX6_lays 155 = .ok (.ireturn, 1) := by decide +kernel
theorem dX6_lays_156 : decode cX6_lays 156 = .ok (.aload 4, 2) := by decide +kernel
theorem dX6_lays_158 : decode cX6_lays 158 = .ok (.bipush 7, 2) := by decide +kernel
theorem dX6_lays_160 : decode cX6_lays 160 = .ok (.iload 5, 2) := by decide +kernel
theorem dX6_lays_162 : decode cX6_lays 162 = .ok (.iconst 1, 1) := by decide +kernel
theorem dX6_lays_163 : decode cX6_lays 163 = .ok (.iadd, 1) := by decide +kernel
theorem dX6_lays_164 : decode cX6_lays 164 = .ok (.iastore, 1) := by decide +kernel
theorem dX6_lays_165 : decode cX6_lays 165 = .ok (.aload 4, 2) := by decide +kernel
theorem dX6_lays_167 : decode cX6_lays 167 = .ok (.bipush 8, 2) := by decide +kernel
theorem dX6_lays_169 : decode cX6_lays 169 = .ok (.iconst 0, 1) := by decide +kernel
theorem dX6_lays_170 : decode cX6_lays 170 = .ok (.iastore, 1) := by decide +kernel
theorem dX6_lays_171 : decode cX6_lays 171 = .ok (.aload 4, 2) := by decide +kernel
theorem dX6_lays_173 : decode cX6_lays 173 = .ok (.bipush 9, 2) := by decide +kernel
theorem dX6_lays_175 : decode cX6_lays 175 = .ok (.aload_n 0, 1) := by decide +kernel
theorem dX6_lays_176 : decode cX6_lays 176 = .ok (.getfield 72, 3) := by decide +kernel
theorem dX6_lays_179 : decode cX6_lays 179 = .ok (.iload 6, 2) := by decide +kernel
theorem dX6_lays_181 : decode cX6_lays 181 = .ok (.iaload, 1) := by decide +kernel
theorem dX6_lays_182 : decode cX6_lays 182 = .ok (.iastore, 1) := by decide +kernel
theorem dX6_lays_183 : decode cX6_lays 183 = .ok (.iconst 0, 1) := by decide +kernel
theorem dX6_lays_184 : decode cX6_lays 184 = .ok (.istore 7, 2) := by decide +kernel
theorem dX6_lays_186 : decode cX6_lays 186 = .ok (.iload 7, 2) := by decide +kernel
theorem dX6_lays_188 : decode cX6_lays 188 = .ok (.iload 5, 2) := by decide +kernel
theorem dX6_lays_190 : decode cX6_lays 190 = .ok (.if_icmp .gt 67, 3) := by decide +kernel
theorem dX6_lays_193 : decode cX6_lays 193 = .ok (.aload 4, 2) := by decide +kernel
theorem dX6_lays_195 : decode cX6_lays 195 = .ok (.iload 7, 2) := by decide +kernel
theorem dX6_lays_197 : decode cX6_lays 197 = .ok (.bipush 10, 2) := by decide +kernel
theorem dX6_lays_199 : decode cX6_lays 199 = .ok (.aload_n 1, 1) := by decide +kernel
theorem dX6_lays_200 : decode cX6_lays 200 = .ok (.iconst 2, 1) := by decide +kernel
theorem dX6_lays_201 : decode cX6_lays 201 = .ok (.iload 7, 2) := by decide +kernel
theorem dX6_lays_203 : decode cX6_lays 203 = .ok (.iadd, 1) := by decide +kernel
theorem dX6_lays_204 : decode cX6_lays 204 = .ok (.iaload, 1) := by decide +kernel
theorem dX6_lays_205 : decode cX6_lays 205 = .ok (.imul, 1) := by decide +kernel
theorem dX6_lays_206 : decode cX6_lays 206 = .ok (.iload 6, 2) := by decide +kernel
theorem dX6_lays_208 : decode cX6_lays 208 = .ok (.iadd, 1) := by decide +kernel
theorem dX6_lays_209 : decode cX6_lays 209 = .ok (.iastore, 1) := by decide +kernel
theorem dX6_lays_210 : decode cX6_lays 210 = .ok (.aload 4, 2) := by decide +kernel
theorem dX6_lays_212 : decode cX6_lays 212 = .ok (.bipush 8, 2) := by decide +kernel
theorem dX6_lays_214 : decode cX6_lays 214 = .ok (.dup2, 1) := by decide +kernel
theorem dX6_lays_215 : decode cX6_lays 215 = .ok (.iaload, 1) := by decide +kernel
theorem dX6_lays_216 : decode cX6_lays 216 = .ok (.aload_n 0, 1) := by decide +kernel
theorem dX6_lays_217 : decode cX6_lays 217 = .ok (.getfield 27, 3) := by decide +kernel
theorem dX6_lays_220 : decode cX6_lays 220 = .ok (.aload_n 1, 1) := by decide +kernel
theorem dX6_lays_221 : decode cX6_lays 221 = .ok (.iconst 2, 1) := by decide +kernel
theorem dX6_lays_222 : decode cX6_lays 222 = .ok (.iload 7, 2) := by decide +kernel
theorem dX6_lays_224 : decode cX6_lays 224 = .ok (.iadd, 1) := by decide +kernel
theorem dX6_lays_225 : decode cX6_lays 225 = .ok (.iaload, 1) := by decide +kernel
theorem dX6_lays_226 : decode cX6_lays 226 = .ok (.iaload, 1) := by decide +kernel
theorem dX6_lays_227 : decode cX6_lays 227 = .ok (.iadd, 1) := by decide +kernel
theorem dX6_lays_228 : decode cX6_lays 228 = .ok (.iastore, 1) := by decide +kernel
theorem dX6_lays_229 : decode cX6_lays 229 = .ok (.iload 7, 2) := by decide +kernel
theorem dX6_lays_231 : decode cX6_lays 231 = .ok (.iload 5, 2) := by decide +kernel
theorem dX6_lays_233 : decode cX6_lays 233 = .ok (.if_icmp .ge 15, 3) := by decide +kernel
theorem dX6_lays_236 : decode cX6_lays 236 = .ok (.aload_n 0, 1) := by decide +kernel
theorem dX6_lays_237 : decode cX6_lays 237 = .ok (.aload_n 1, 1) := by decide +kernel
theorem dX6_lays_238 : decode cX6_lays 238 = .ok (.iload 7, 2) := by decide +kernel
theorem dX6_lays_240 : decode cX6_lays 240 = .ok (.iload 6, 2) := by decide +kernel
theorem dX6_lays_242 : decode cX6_lays 242 = .ok (.invokevirtual 137, 3) := by decide +kernel
theorem dX6_lays_245 : decode cX6_lays 245 = .ok (.goto 4, 3) := by decide +kernel
theorem dX6_lays_248 : decode cX6_lays 248 = .ok (.iconst 0, 1) := by decide +kernel
theorem dX6_lays_249 : decode cX6_lays 249 = .ok (.istore 6, 2) := by decide +kernel
theorem dX6_lays_251 : decode cX6_lays 251 = .ok (.iinc 7 1, 3) := by decide +kernel
theorem dX6_lays_254 : decode cX6_lays 254 = .ok (.goto (-68), 3) := by decide +kernel
theorem dX6_lays_257 : decode cX6_lays 257 = .ok (.iconst 1, 1) := by decide +kernel
theorem dX6_lays_258 : decode cX6_lays 258 = .ok (.ireturn, 1) := by decide +kernel
theorem dX6_follows_0 : decode cX6_follows 0 = .ok (.iconst 0, 1) := by decide +kernel
theorem dX6_follows_1 : decode cX6_follows 1 = .ok (.istore 4, 2) := by decide +kernel
theorem dX6_follows_3 : decode cX6_follows 3 = .ok (.iload 4, 2) := by decide +kernel
theorem dX6_follows_5 : decode cX6_follows 5 = .ok (.aload_n 0, 1) := by decide +kernel
theorem dX6_follows_6 : decode cX6_follows 6 = .ok (.getfield 13, 3) := by decide +kernel
theorem dX6_follows_9 : decode cX6_follows 9 = .ok (.if_icmp .ge 79, 3) := by decide +kernel
theorem dX6_follows_12 : decode cX6_follows 12 = .ok (.iload 4, 2) := by decide +kernel
theorem dX6_follows_14 : decode cX6_follows 14 = .ok (.iload_n 3, 1) := by decide +kernel
theorem dX6_follows_15 : decode cX6_follows 15 = .ok (.if_icmp .ne 7, 3) := by decide +kernel
theorem dX6_follows_18 : decode cX6_follows 18 = .ok (.iconst 0, 1) := by decide +kernel
theorem dX6_follows_19 : decode cX6_follows 19 = .ok (.goto 26, 3) := by decide +kernel
theorem dX6_follows_22 : decode cX6_follows 22 = .ok (.aload_n 0, 1) := by decide +kernel
theorem dX6_follows_23 : decode cX6_follows 23 = .ok (.getfield 16, 3) := by decide +kernel
theorem dX6_follows_26 : decode cX6_follows 26 = .ok (.aload_n 1, 1) := by decide +kernel
theorem dX6_follows_27 : decode cX6_follows 27 = .ok (.bipush 10, 2) := by decide +kernel
theorem dX6_follows_29 : decode cX6_follows 29 = .ok (.iload_n 2, 1) := by decide +kernel
theorem dX6_follows_30 : decode cX6_follows 30 = .ok (.iadd, 1) := by decide +kernel
theorem dX6_follows_31 : decode cX6_follows 31 = .ok (.iconst 1, 1) := by decide +kernel
theorem dX6_follows_32 : decode cX6_follows 32 = .ok (.iadd, 1) := by decide +kernel
theorem dX6_follows_33 : decode cX6_follows 33 = .ok (.iaload, 1) := by decide +kernel
theorem dX6_follows_34 : decode cX6_follows 34 = .ok (.baload, 1) := by decide +kernel
theorem dX6_follows_35 : decode cX6_follows 35 = .ok (.ifCond .eq 7, 3) := by decide +kernel
theorem dX6_follows_38 : decode cX6_follows 38 = .ok (.iconst 1, 1) := by decide +kernel
theorem dX6_follows_39 : decode cX6_follows 39 = .ok (.goto 6, 3) := by decide +kernel
theorem dX6_follows_42 : decode cX6_follows 42 = .ok (.sipush 1000, 3) := by decide +kernel
theorem dX6_follows_45 : decode cX6_follows 45 = .ok (.istore 5, 2) := by decide +kernel
theorem dX6_follows_47 : decode cX6_follows 47 = .ok (.aload_n 0, 1) := by decide +kernel
theorem dX6_follows_48 : decode cX6_follows 48 = .ok (.getfield 72, 3) := by decide +kernel
theorem dX6_follows_51 : decode cX6_follows 51 = .ok (.bipush 8, 2) := by decide +kernel
theorem dX6_follows_53 : decode cX6_follows 53 = .ok (.iload_n 2, 1) := by decide +kernel
theorem dX6_follows_54 : decode cX6_follows 54 = .ok (.imul, 1) := by decide +kernel
theorem dX6_follows_55 : decode cX6_follows 55 = .ok (.bipush 8, 2) := by decide +kernel
theorem dX6_follows_57 : decode cX6_follows 57 = .ok (.iadd, 1) := by decide +kernel
theorem dX6_follows_58 : decode cX6_follows 58 = .ok (.iload 4, 2) := by decide +kernel
theorem dX6_follows_60 : decode cX6_follows 60 = .ok (.iadd, 1) := by decide +kernel
theorem dX6_follows_61 : decode cX6_follows 61 = .ok (.iaload, 1) := by decide +kernel
theorem dX6_follows_62 : decode cX6_follows 62 = .ok (.iload 5, 2) := by decide +kernel
theorem dX6_follows_64 : decode cX6_follows 64 = .ok (.iadd, 1) := by decide +kernel
theorem dX6_follows_65 : decode cX6_follows 65 = .ok (.aload_n 0, 1) := by decide +kernel
theorem dX6_follows_66 : decode cX6_follows 66 = .ok (.getfield 72, 3) := by decide +kernel
theorem dX6_follows_69 : decode cX6_follows 69 = .ok (.bipush 8, 2) := by decide +kernel
theorem dX6_follows_71 : decode cX6_follows 71 = .ok (.iload_n 2, 1) := by decide +kernel
theorem dX6_follows_72 : decode cX6_follows 72 = .ok (.imul, 1) := by decide +kernel
theorem dX6_follows_73 : decode cX6_follows 73 = .ok (.iload_n 3, 1) := by decide +kernel
theorem dX6_follows_74 : decode cX6_follows 74 = .ok (.iadd, 1) := by decide +kernel
theorem dX6_follows_75 : decode cX6_follows 75 = .ok (.iaload, 1) := by decide +kernel
theorem dX6_follows_76 : decode cX6_follows 76 = .ok (.if_icmp .ne 6, 3) := by decide +kernel
theorem dX6_follows_79 : decode cX6_follows 79 = .ok (.iload 4, 2) := by decide +kernel
theorem dX6_follows_81 : decode cX6_follows 81 = .ok (.ireturn, 1) := by decide +kernel
theorem dX6_follows_82 : decode cX6_follows 82 = .ok (.iinc 4 1, 3) := by decide +kernel
theorem dX6_follows_85 : decode cX6_follows 85 = .ok (.goto (-82), 3) := by decide +kernel
theorem dX6_follows_88 : decode cX6_follows 88 = .ok (.iload_n 3, 1) := by decide +kernel
theorem dX6_follows_89 : decode cX6_follows 89 = .ok (.ireturn, 1) := by decide +kernel
theorem dX6_isAhead_0 : decode cX6_isAhead 0 = .ok (.bipush 8, 2) := by decide +kernel
theorem dX6_isAhead_2 : decode cX6_isAhead 2 = .ok (.istore_n 2, 1) := by decide +kernel
theorem dX6_isAhead_3 : decode cX6_isAhead 3 = .ok (.iload_n 2, 1) := by decide +kernel
theorem dX6_isAhead_4 : decode cX6_isAhead 4 = .ok (.bipush 9, 2) := by decide +kernel
theorem dX6_isAhead_6 : decode cX6_isAhead 6 = .ok (.if_icmp .gt 33, 3) := by decide +kernel
theorem dX6_isAhead_9 : decode cX6_isAhead 9 = .ok (.aload_n 0, 1) := by decide +kernel
theorem dX6_isAhead_10 : decode cX6_isAhead 10 = .ok (.iload_n 2, 1) := by decide +kernel
theorem dX6_isAhead_11 : decode cX6_isAhead 11 = .ok (.iaload, 1) := by decide +kernel
theorem dX6_isAhead_12 : decode cX6_isAhead 12 = .ok (.aload_n 1, 1) := by decide +kernel
theorem dX6_isAhead_13 : decode cX6_isAhead 13 = .ok (.iload_n 2, 1) := by decide +kernel
theorem dX6_isAhead_14 : decode cX6_isAhead 14 = .ok (.iaload, 1) := by decide +kernel
theorem dX6_isAhead_15 : decode cX6_isAhead 15 = .ok (.if_icmp .eq 18, 3) := by decide +kernel
theorem dX6_isAhead_18 : decode cX6_isAhead 18 = .ok (.aload_n 0, 1) := by decide +kernel
theorem dX6_isAhead_19 : decode cX6_isAhead 19 = .ok (.iload_n 2, 1) := by decide +kernel
theorem dX6_isAhead_20 : decode cX6_isAhead 20 = .ok (.iaload, 1) := by decide +kernel
theorem dX6_isAhead_21 : decode cX6_isAhead 21 = .ok (.aload_n 1, 1) := by decide +kernel
theorem dX6_isAhead_22 : decode cX6_isAhead 22 = .ok (.iload_n 2, 1) := by decide +kernel
theorem dX6_isAhead_23 : decode cX6_isAhead 23 = .ok (.iaload, 1) := by decide +kernel
theorem dX6_isAhead_24 : decode cX6_isAhead 24 = .ok (.if_icmp .ge 7, 3) := by decide +kernel
theorem dX6_isAhead_27 : decode cX6_isAhead 27 = .ok (.iconst 1, 1) := by decide +kernel
theorem dX6_isAhead_28 : decode cX6_isAhead 28 = .ok (.goto 4, 3) := by decide +kernel
theorem dX6_isAhead_31 : decode cX6_isAhead 31 = .ok (.iconst 0, 1) := by decide +kernel
theorem dX6_isAhead_32 : decode cX6_isAhead 32 = .ok (.ireturn, 1) := by decide +kernel
theorem dX6_isAhead_33 : decode cX6_isAhead 33 = .ok (.iinc 2 1, 3) := by decide +kernel
theorem dX6_isAhead_36 : decode cX6_isAhead 36 = .ok (.goto (-33), 3) := by decide +kernel
theorem dX6_isAhead_39 : decode cX6_isAhead 39 = .ok (.aload_n 0, 1) := by decide +kernel
theorem dX6_isAhead_40 : decode cX6_isAhead 40 = .ok (.bipush 7, 2) := by decide +kernel
theorem dX6_isAhead_42 : decode cX6_isAhead 42 = .ok (.iaload, 1) := by decide +kernel
theorem dX6_isAhead_43 : decode cX6_isAhead 43 = .ok (.aload_n 1, 1) := by decide +kernel
theorem dX6_isAhead_44 : decode cX6_isAhead 44 = .ok (.bipush 7, 2) := by decide +kernel
theorem dX6_isAhead_46 : decode cX6_isAhead 46 = .ok (.iaload, 1) := by decide +kernel
theorem dX6_isAhead_47 : decode cX6_isAhead 47 = .ok (.if_icmp .eq 20, 3) := by decide +kernel
theorem dX6_isAhead_50 : decode cX6_isAhead 50 = .ok (.aload_n 0, 1) := by decide +kernel
theorem dX6_isAhead_51 : decode cX6_isAhead 51 = .ok (.bipush 7, 2) := by decide +kernel
theorem dX6_isAhead_53 : decode cX6_isAhead 53 = .ok (.iaload, 1) := by decide +kernel
theorem dX6_isAhead_54 : decode cX6_isAhead 54 = .ok (.aload_n 1, 1) := by decide +kernel
theorem dX6_isAhead_55 : decode cX6_isAhead 55 = .ok (.bipush 7, 2) := by decide +kernel
theorem dX6_isAhead_57 : decode cX6_isAhead 57 = .ok (.iaload, 1) := by decide +kernel
theorem dX6_isAhead_58 : decode cX6_isAhead 58 = .ok (.if_icmp .ge 7, 3) := by decide +kernel
theorem dX6_isAhead_61 : decode cX6_isAhead 61 = .ok (.iconst 1, 1) := by decide +kernel
theorem dX6_isAhead_62 : decode cX6_isAhead 62 = .ok (.goto 4, 3) := by decide +kernel
theorem dX6_isAhead_65 : decode cX6_isAhead 65 = .ok (.iconst 0, 1) := by decide +kernel
theorem dX6_isAhead_66 : decode cX6_isAhead 66 = .ok (.ireturn, 1) := by decide +kernel
theorem dX6_isAhead_67 : decode cX6_isAhead 67 = .ok (.iconst 0, 1) := by decide +kernel
theorem dX6_isAhead_68 : decode cX6_isAhead 68 = .ok (.istore_n 2, 1) := by decide +kernel
theorem dX6_isAhead_69 : decode cX6_isAhead 69 = .ok (.iload_n 2, 1) := by decide +kernel
theorem dX6_isAhead_70 : decode cX6_isAhead 70 = .ok (.aload_n 0, 1) := by decide +kernel
theorem dX6_isAhead_71 : decode cX6_isAhead 71 = .ok (.bipush 7, 2) := by decide +kernel
theorem dX6_isAhead_73 : decode cX6_isAhead 73 = .ok (.iaload, 1) := by decide +kernel
theorem dX6_isAhead_74 : decode cX6_isAhead 74 = .ok (.iconst 1, 1) := by decide +kernel
theorem dX6_isAhead_75 : decode cX6_isAhead 75 = .ok (.isub, 1) := by decide +kernel
theorem dX6_isAhead_76 : decode cX6_isAhead 76 = .ok (.if_icmp .ge 18, 3) := by decide +kernel
theorem dX6_isAhead_79 : decode cX6_isAhead 79 = .ok (.aload_n 0, 1) := by decide +kernel
theorem dX6_isAhead_80 : decode cX6_isAhead 80 = .ok (.iload_n 2, 1) := by decide +kernel
theorem dX6_isAhead_81 : decode cX6_isAhead 81 = .ok (.iaload, 1) := by decide +kernel
theorem dX6_isAhead_82 : decode cX6_isAhead 82 = .ok (.aload_n 1, 1) := by decide +kernel
theorem dX6_isAhead_83 : decode cX6_isAhead 83 = .ok (.iload_n 2, 1) := by decide +kernel
theorem dX6_isAhead_84 : decode cX6_isAhead 84 = .ok (.iaload, 1) := by decide +kernel
theorem dX6_isAhead_85 : decode cX6_isAhead 85 = .ok (.if_icmp .ne 9, 3) := by decide +kernel
theorem dX6_isAhead_88 : decode cX6_isAhead 88 = .ok (.iinc 2 1, 3) := by decide +kernel
theorem dX6_isAhead_91 : decode cX6_isAhead 91 = .ok (.goto (-22), 3) := by decide +kernel
theorem dX6_isAhead_94 : decode cX6_isAhead 94 = .ok (.aload_n 0, 1) := by decide +kernel
theorem dX6_isAhead_95 : decode cX6_isAhead 95 = .ok (.iload_n 2, 1) := by decide +kernel
theorem dX6_isAhead_96 : decode cX6_isAhead 96 = .ok (.iaload, 1) := by decide +kernel
theorem dX6_isAhead_97 : decode cX6_isAhead 97 = .ok (.aload_n 1, 1) := by decide +kernel
theorem dX6_isAhead_98 : decode cX6_isAhead 98 = .ok (.iload_n 2, 1) := by decide +kernel
theorem dX6_isAhead_99 : decode cX6_isAhead 99 = .ok (.iaload, 1) := by decide +kernel
theorem dX6_isAhead_100 : decode cX6_isAhead 100 = .ok (.if_icmp .ge 7, 3) := by decide +kernel
theorem dX6_isAhead_103 : decode cX6_isAhead 103 = .ok (.iconst 1, 1) := by decide +kernel
theorem dX6_isAhead_104 : decode cX6_isAhead 104 = .ok (.goto 4, 3) := by decide +kernel
theorem dX6_isAhead_107 : decode cX6_isAhead 107 = .ok (.iconst 0, 1) := by decide +kernel
theorem dX6_isAhead_108 : decode cX6_isAhead 108 = .ok (.ireturn, 1) := by decide +kernel
theorem dX6_copies_0 : decode cX6_copies 0 = .ok (.iconst 0, 1) := by decide +kernel
theorem dX6_copies_1 : decode cX6_copies 1 = .ok (.istore_n 2, 1) := by decide +kernel
theorem dX6_copies_2 : decode cX6_copies 2 = .ok (.iload_n 2, 1) := by decide +kernel
theorem dX6_copies_3 : decode cX6_copies 3 = .ok (.bipush 10, 2) := by decide +kernel
theorem dX6_copies_5 : decode cX6_copies 5 = .ok (.if_icmp .ge 15, 3) := by decide +kernel
theorem dX6_copies_8 : decode cX6_copies 8 = .ok (.aload_n 1, 1) := by decide +kernel
theorem dX6_copies_9 : decode cX6_copies 9 = .ok (.iload_n 2, 1) := by decide +kernel
theorem dX6_copies_10 : decode cX6_copies 10 = .ok (.aload_n 0, 1) := by decide +kernel
theorem dX6_copies_11 : decode cX6_copies 11 = .ok (.iload_n 2, 1) := by decide +kernel
theorem dX6_copies_12 : decode cX6_copies 12 = .ok (.iaload, 1) := by decide +kernel
theorem dX6_copies_13 : decode cX6_copies 13 = .ok (.iastore, 1) := by decide +kernel
theorem dX6_copies_14 : decode cX6_copies 14 = .ok (.iinc 2 1, 3) := by decide +kernel
theorem dX6_copies_17 : decode cX6_copies 17 = .ok (.goto (-15), 3) := by decide +kernel
theorem dX6_copies_20 : decode cX6_copies 20 = .ok (.return_, 1) := by decide +kernel
set_option maxRecDepth 20000 in
theorem ggX6_finds_X6_sets : GoodIn wsX6_finds wsX6_sets := goodIn_r _ [7] (by decide +kernel) (by decide +kernel)
set_option maxRecDepth 20000 in
theorem gX6_finds_X6_sets : GoodIn wsX6_finds (va_wsS RX6 141 yX6_sets wsX6_sets) := goodIn_app (goodIn_of _ (by decide +kernel)) ggX6_finds_X6_sets
set_option maxRecDepth 20000 in
theorem ggX6_finds_X6_goesOn : GoodIn wsX6_finds wsX6_goesOn := goodIn_r _ [11, 12, 13, 14, 15, 16, 17, 6, 18, 47, 48, 49, 50, 51, 52, 53, 54, 55, 56, 57, 58, 59, 60, 61, 62, 63, 64, 65, 66, 67, 68, 69, 70, 71, 72, 73, 74] (by decide +kernel) (by decide +kernel)
set_option maxRecDepth 20000 in
theorem gX6_finds_X6_goesOn : GoodIn wsX6_finds (wsV RX6 145 RX6 yX6_goesOn wsX6_goesOn) := goodIn_app (goodIn_of _ (by decide +kernel)) ggX6_finds_X6_goesOn
set_option maxRecDepth 20000 in
theorem ggX6_finds_X6_lays : GoodIn wsX6_finds wsX6_lays := goodIn_r _ [22, 23, 24, 25, 26, 27, 28, 6, 29, 30, 31, 32, 33, 34, 35, 36, 37, 38, 39, 40, 47, 48, 49, 50, 51, 52, 53, 54, 55, 56, 57, 58, 59, 60, 61, 62, 63, 64, 65, 66, 67, 68, 69, 70, 71, 72, 73, 74] (by decide +kernel) (by decide +kernel)
set_option maxRecDepth 20000 in
theorem gX6_finds_X6_lays : GoodIn wsX6_finds (wsV RX6 149 RX6 yX6_lays wsX6_lays) := goodIn_app (goodIn_of _ (by decide +kernel)) ggX6_finds_X6_lays
set_option maxRecDepth 20000 in
theorem ggX6_finds_X6_isAhead : GoodIn wsX6_finds wsX6_isAhead := goodIn_r _ [43] (by decide +kernel) (by decide +kernel)
set_option maxRecDepth 20000 in
theorem gX6_finds_X6_isAhead : GoodIn wsX6_finds (va_wsS RX6 153 yX6_isAhead wsX6_isAhead) := goodIn_app (goodIn_of _ (by decide +kernel)) ggX6_finds_X6_isAhead
set_option maxRecDepth 20000 in
theorem ggX6_finds_X6_copies : GoodIn wsX6_finds wsX6_copies := goodIn_r _ [46] (by decide +kernel) (by decide +kernel)
set_option maxRecDepth 20000 in
theorem gX6_finds_X6_copies : GoodIn wsX6_finds (va_wsS RX6 157 yX6_copies wsX6_copies) := goodIn_app (goodIn_of _ (by decide +kernel)) ggX6_finds_X6_copies
theorem dX6_finds_0 : decode cX6_finds 0 = .ok (.aload_n 0, 1) := by decide +kernel
theorem dX6_finds_1 : decode cX6_finds 1 = .ok (.getfield 66, 3) := by decide +kernel
theorem dX6_finds_4 : decode cX6_finds 4 = .ok (.bipush 7, 2) := by decide +kernel
theorem dX6_finds_6 : decode cX6_finds 6 = .ok (.iconst 0, 1) := by decide +kernel
theorem dX6_finds_7 : decode cX6_finds 7 = .ok (.iastore, 1) := by decide +kernel
theorem dX6_finds_8 : decode cX6_finds 8 = .ok (.aload_n 0, 1) := by decide +kernel
theorem dX6_finds_9 : decode cX6_finds 9 = .ok (.getfield 54, 3) := by decide +kernel
theorem dX6_finds_12 : decode cX6_finds 12 = .ok (.iload_n 1, 1) := by decide +kernel
theorem dX6_finds_13 : decode cX6_finds 13 = .ok (.invokestatic 141, 3) := by decide +kernel
theorem dX6_finds_16 : decode cX6_finds 16 = .ok (.aload_n 0, 1) := by decide +kernel
theorem dX6_finds_17 : decode cX6_finds 17 = .ok (.aload_n 0, 1) := by decide +kernel
theorem dX6_finds_18 : decode cX6_finds 18 = .ok (.getfield 54, 3) := by decide +kernel
theorem dX6_finds_21 : decode cX6_finds 21 = .ok (.iload_n 2, 1) := by decide +kernel
theorem dX6_finds_22 : decode cX6_finds 22 = .ok (.iconst 0, 1) := by decide +kernel
theorem dX6_finds_23 : decode cX6_finds 23 = .ok (.invokevirtual 145, 3) := by decide +kernel
theorem dX6_finds_26 : decode cX6_finds 26 = .ok (.ifCond .eq 59, 3) := by decide +kernel
theorem dX6_finds_29 : decode cX6_finds 29 = .ok (.aload_n 0, 1) := by decide +kernel
theorem dX6_finds_30 : decode cX6_finds 30 = .ok (.aload_n 0, 1) := by decide +kernel
theorem dX6_finds_31 : decode cX6_finds 31 = .ok (.getfield 54, 3) := by decide +kernel
theorem dX6_finds_34 : decode cX6_finds 34 = .ok (.iload_n 3, 1) := by decide +kernel
theorem dX6_finds_35 : decode cX6_finds 35 = .ok (.iload 4, 2) := by decide +kernel
theorem dX6_finds_37 : decode cX6_finds 37 = .ok (.aload_n 0, 1) := by decide +kernel
theorem dX6_finds_38 : decode cX6_finds 38 = .ok (.getfield 60, 3) := by decide +kernel
theorem dX6_finds_41 : decode cX6_finds 41 = .ok (.invokevirtual 149, 3) := by decide +kernel
theorem dX6_finds_44 : decode cX6_finds 44 = .ok (.ifCond .eq (-28), 3) := by decide +kernel
theorem dX6_finds_47 : decode cX6_finds 47 = .ok (.aload_n 0, 1) := by decide +kernel
theorem dX6_finds_48 : decode cX6_finds 48 = .ok (.getfield 66, 3) := by decide +kernel
theorem dX6_finds_51 : decode cX6_finds 51 = .ok (.bipush 7, 2) := by decide +kernel
theorem dX6_finds_53 : decode cX6_finds 53 = .ok (.iaload, 1) := by decide +kernel
theorem dX6_finds_54 : decode cX6_finds 54 = .ok (.ifCond .eq 17, 3) := by decide +kernel
theorem dX6_finds_57 : decode cX6_finds 57 = .ok (.aload_n 0, 1) := by decide +kernel
theorem dX6_finds_58 : decode cX6_finds 58 = .ok (.getfield 60, 3) := by decide +kernel
theorem dX6_finds_61 : decode cX6_finds 61 = .ok (.aload_n 0, 1) := by decide +kernel
theorem dX6_finds_62 : decode cX6_finds 62 = .ok (.getfield 66, 3) := by decide +kernel
theorem dX6_finds_65 : decode cX6_finds 65 = .ok (.invokestatic 153, 3) := by decide +kernel
theorem dX6_finds_68 : decode cX6_finds 68 = .ok (.ifCond .eq (-52), 3) := by decide +kernel
theorem dX6_finds_71 : decode cX6_finds 71 = .ok (.aload_n 0, 1) := by decide +kernel
theorem dX6_finds_72 : decode cX6_finds 72 = .ok (.getfield 60, 3) := by decide +kernel
theorem dX6_finds_75 : decode cX6_finds 75 = .ok (.aload_n 0, 1) := by decide +kernel
theorem dX6_finds_76 : decode cX6_finds 76 = .ok (.getfield 66, 3) := by decide +kernel
theorem dX6_finds_79 : decode cX6_finds 79 = .ok (.invokestatic 157, 3) := by decide +kernel
theorem dX6_finds_82 : decode cX6_finds 82 = .ok (.goto (-66), 3) := by decide +kernel
theorem dX6_finds_85 : decode cX6_finds 85 = .ok (.aload_n 0, 1) := by decide +kernel
theorem dX6_finds_86 : decode cX6_finds 86 = .ok (.getfield 66, 3) := by decide +kernel
theorem dX6_finds_89 : decode cX6_finds 89 = .ok (.bipush 7, 2) := by decide +kernel
theorem dX6_finds_91 : decode cX6_finds 91 = .ok (.iaload, 1) := by decide +kernel
theorem dX6_finds_92 : decode cX6_finds 92 = .ok (.ifCond .le 7, 3) := by decide +kernel
theorem dX6_finds_95 : decode cX6_finds 95 = .ok (.iconst 1, 1) := by decide +kernel
theorem dX6_finds_96 : decode cX6_finds 96 = .ok (.goto 4, 3) := by decide +kernel
theorem dX6_finds_99 : decode cX6_finds 99 = .ok (.iconst 0, 1) := by decide +kernel
theorem dX6_finds_100 : decode cX6_finds 100 = .ok (.ireturn, 1) := by decide +kernel
set_option maxRecDepth 20000 in
theorem ggX6_findsOneWavelength_X6_finds : GoodIn wsX6_findsOneWavelength wsX6_finds := goodIn_r _ [6, 7, 8, 9, 10, 11, 5, 12, 13, 14, 15, 16, 17, 18, 19, 20, 21, 22, 23, 24, 25, 26, 27, 1, 28, 29, 30, 31, 32, 33, 34, 35, 36, 37, 38, 39, 40, 41, 42, 43, 44, 45, 46, 47, 48, 49, 50, 51, 52, 53, 54, 55, 56, 57, 58, 59, 60, 61, 62, 63, 64, 65, 66, 67, 68, 69, 70, 71, 72, 73, 74, 75, 76, 77, 78] (by decide +kernel) (by decide +kernel)
set_option maxRecDepth 20000 in
theorem gX6_findsOneWavelength_X6_finds : GoodIn wsX6_findsOneWavelength (wsV RX6 161 RX6 yX6_finds wsX6_finds) := goodIn_app (goodIn_of _ (by decide +kernel)) ggX6_findsOneWavelength_X6_finds
theorem dX6_findsOneWavelength_0 : decode cX6_findsOneWavelength 0 = .ok (.iconst 0, 1) := by decide +kernel
theorem dX6_findsOneWavelength_1 : decode cX6_findsOneWavelength 1 = .ok (.istore_n 3, 1) := by decide +kernel
theorem dX6_findsOneWavelength_2 : decode cX6_findsOneWavelength 2 = .ok (.iload_n 3, 1) := by decide +kernel
theorem dX6_findsOneWavelength_3 : decode cX6_findsOneWavelength 3 = .ok (.aload_n 0, 1) := by decide +kernel
theorem dX6_findsOneWavelength_4 : decode cX6_findsOneWavelength 4 = .ok (.getfield 13, 3) := by decide +kernel
theorem dX6_findsOneWavelength_7 : decode cX6_findsOneWavelength 7 = .ok (.if_icmp .ge 24, 3) := by decide +kernel
theorem dX6_findsOneWavelength_10 : decode cX6_findsOneWavelength 10 = .ok (.aload_n 0, 1) := by decide +kernel
theorem dX6_findsOneWavelength_11 : decode cX6_findsOneWavelength 11 = .ok (.iload_n 1, 1) := by decide +kernel
theorem dX6_findsOneWavelength_12 : decode cX6_findsOneWavelength 12 = .ok (.iload_n 2, 1) := by decide +kernel
theorem dX6_findsOneWavelength_13 : decode cX6_findsOneWavelength 13 = .ok (.iconst (-1), 1) := by decide +kernel
theorem dX6_findsOneWavelength_14 : decode cX6_findsOneWavelength 14 = .ok (.iconst 1, 1) := by decide +kernel
theorem dX6_findsOneWavelength_15 : decode cX6_findsOneWavelength 15 = .ok (.iload_n 3, 1) := by decide +kernel
theorem dX6_findsOneWavelength_16 : decode cX6_findsOneWavelength 16 = .ok (.ishl, 1) := by decide +kernel
theorem dX6_findsOneWavelength_17 : decode cX6_findsOneWavelength 17 = .ok (.invokevirtual 161, 3) := by decide +kernel
theorem dX6_findsOneWavelength_20 : decode cX6_findsOneWavelength 20 = .ok (.ifCond .eq 5, 3) := by decide +kernel
theorem dX6_findsOneWavelength_23 : decode cX6_findsOneWavelength 23 = .ok (.iconst 1, 1) := by decide +kernel
theorem dX6_findsOneWavelength_24 : decode cX6_findsOneWavelength 24 = .ok (.ireturn, 1) := by decide +kernel
theorem dX6_findsOneWavelength_25 : decode cX6_findsOneWavelength 25 = .ok (.iinc 3 1, 3) := by decide +kernel
theorem dX6_findsOneWavelength_28 : decode cX6_findsOneWavelength 28 = .ok (.goto (-26), 3) := by decide +kernel
theorem dX6_findsOneWavelength_31 : decode cX6_findsOneWavelength 31 = .ok (.iconst 0, 1) := by decide +kernel
theorem dX6_findsOneWavelength_32 : decode cX6_findsOneWavelength 32 = .ok (.ireturn, 1) := by decide +kernel
set_option maxRecDepth 20000 in
theorem ggX6_laysOne_X6_free : GoodIn wsX6_laysOne wsX6_free := goodIn_r _ [5, 6, 7, 8, 24, 25, 26, 27, 28, 29, 30, 31, 32, 33, 34, 35, 36, 37, 38, 39, 40, 41, 42, 43, 44, 45, 46, 47, 48, 49, 50, 51] (by decide +kernel) (by decide +kernel)
set_option maxRecDepth 20000 in
theorem gX6_laysOne_X6_free : GoodIn wsX6_laysOne (wsV RX6 129 RX6 yX6_free wsX6_free) := goodIn_app (goodIn_of _ (by decide +kernel)) ggX6_laysOne_X6_free
set_option maxRecDepth 20000 in
theorem ggX6_laysOne_X6_lays : GoodIn wsX6_laysOne wsX6_lays := goodIn_r _ [12, 6, 13, 14, 1, 2, 3, 4, 5, 7, 8, 15, 16, 17, 18, 19, 20, 21, 22, 23, 24, 25, 26, 27, 28, 29, 30, 31, 32, 33, 34, 35, 36, 37, 38, 39, 40, 41, 42, 43, 44, 45, 46, 47, 48, 49, 50, 51] (by decide +kernel) (by decide +kernel)
set_option maxRecDepth 20000 in
theorem gX6_laysOne_X6_lays : GoodIn wsX6_laysOne (wsV RX6 149 RX6 yX6_lays wsX6_lays) := goodIn_app (goodIn_of _ (by decide +kernel)) ggX6_laysOne_X6_lays
theorem dX6_laysOne_0 : decode cX6_laysOne 0 = .ok (.sipush 255, 3) := by decide +kernel
theorem dX6_laysOne_3 : decode cX6_laysOne 3 = .ok (.istore_n 3, 1) := by decide +kernel
theorem dX6_laysOne_4 : decode cX6_laysOne 4 = .ok (.iconst 0, 1) := by decide +kernel
theorem dX6_laysOne_5 : decode cX6_laysOne 5 = .ok (.istore 4, 2) := by decide +kernel
theorem dX6_laysOne_7 : decode cX6_laysOne 7 = .ok (.iload 4, 2) := by decide +kernel
theorem dX6_laysOne_9 : decode cX6_laysOne 9 = .ok (.aload_n 1, 1) := by decide +kernel
theorem dX6_laysOne_10 : decode cX6_laysOne 10 = .ok (.iconst 0, 1) := by decide +kernel
theorem dX6_laysOne_11 : decode cX6_laysOne 11 = .ok (.iaload, 1) := by decide +kernel
theorem dX6_laysOne_12 : decode cX6_laysOne 12 = .ok (.if_icmp .gt 23, 3) := by decide +kernel
theorem dX6_laysOne_15 : decode cX6_laysOne 15 = .ok (.iload_n 3, 1) := by decide +kernel
theorem dX6_laysOne_16 : decode cX6_laysOne 16 = .ok (.aload_n 0, 1) := by decide +kernel
theorem dX6_laysOne_17 : decode cX6_laysOne 17 = .ok (.aload_n 1, 1) := by decide +kernel
theorem dX6_laysOne_18 : decode cX6_laysOne 18 = .ok (.iconst 2, 1) := by decide +kernel
theorem dX6_laysOne_19 : decode cX6_laysOne 19 = .ok (.iload 4, 2) := by decide +kernel
theorem dX6_laysOne_21 : decode cX6_laysOne 21 = .ok (.iadd, 1) := by decide +kernel
theorem dX6_laysOne_22 : decode cX6_laysOne 22 = .ok (.iaload, 1) := by decide +kernel
theorem dX6_laysOne_23 : decode cX6_laysOne 23 = .ok (.iconst (-1), 1) := by decide +kernel
theorem dX6_laysOne_24 : decode cX6_laysOne 24 = .ok (.invokevirtual 129, 3) := by decide +kernel
theorem dX6_laysOne_27 : decode cX6_laysOne 27 = .ok (.iand, 1) := by decide +kernel
theorem dX6_laysOne_28 : decode cX6_laysOne 28 = .ok (.istore_n 3, 1) := by decide +kernel
theorem dX6_laysOne_29 : decode cX6_laysOne 29 = .ok (.iinc 4 1, 3) := by decide +kernel
theorem dX6_laysOne_32 : decode cX6_laysOne 32 = .ok (.goto (-25), 3) := by decide +kernel
theorem dX6_laysOne_35 : decode cX6_laysOne 35 = .ok (.iload_n 3, 1) := by decide +kernel
theorem dX6_laysOne_36 : decode cX6_laysOne 36 = .ok (.ifCond .eq 21, 3) := by decide +kernel
theorem dX6_laysOne_39 : decode cX6_laysOne 39 = .ok (.aload_n 0, 1) := by decide +kernel
theorem dX6_laysOne_40 : decode cX6_laysOne 40 = .ok (.aload_n 1, 1) := by decide +kernel
theorem dX6_laysOne_41 : decode cX6_laysOne 41 = .ok (.iconst (-1), 1) := by decide +kernel
theorem dX6_laysOne_42 : decode cX6_laysOne 42 = .ok (.iload_n 3, 1) := by decide +kernel
theorem dX6_laysOne_43 : decode cX6_laysOne 43 = .ok (.iload_n 3, 1) := by decide +kernel
theorem dX6_laysOne_44 : decode cX6_laysOne 44 = .ok (.ineg, 1) := by decide +kernel
theorem dX6_laysOne_45 : decode cX6_laysOne 45 = .ok (.iand, 1) := by decide +kernel
theorem dX6_laysOne_46 : decode cX6_laysOne 46 = .ok (.aload_n 2, 1) := by decide +kernel
theorem dX6_laysOne_47 : decode cX6_laysOne 47 = .ok (.invokevirtual 149, 3) := by decide +kernel
theorem dX6_laysOne_50 : decode cX6_laysOne 50 = .ok (.ifCond .eq 7, 3) := by decide +kernel
theorem dX6_laysOne_53 : decode cX6_laysOne 53 = .ok (.iconst 1, 1) := by decide +kernel
theorem dX6_laysOne_54 : decode cX6_laysOne 54 = .ok (.goto 4, 3) := by decide +kernel
theorem dX6_laysOne_57 : decode cX6_laysOne 57 = .ok (.iconst 0, 1) := by decide +kernel
theorem dX6_laysOne_58 : decode cX6_laysOne 58 = .ok (.ireturn, 1) := by decide +kernel
set_option maxRecDepth 20000 in
theorem ggX6_findsPair_X6_sets : GoodIn wsX6_findsPair wsX6_sets := goodIn_r _ [10] (by decide +kernel) (by decide +kernel)
set_option maxRecDepth 20000 in
theorem gX6_findsPair_X6_sets : GoodIn wsX6_findsPair (va_wsS RX6 141 yX6_sets wsX6_sets) := goodIn_app (goodIn_of _ (by decide +kernel)) ggX6_findsPair_X6_sets
set_option maxRecDepth 20000 in
theorem ggX6_findsPair_X6_goesOn : GoodIn wsX6_findsPair wsX6_goesOn := goodIn_r _ [14, 15, 16, 17, 18, 19, 20, 9, 21, 58, 59, 60, 61, 62, 63, 64, 65, 66, 67, 68, 69, 70, 71, 72, 73, 74, 75, 76, 77, 78, 79, 80, 81, 82, 83, 84, 85] (by decide +kernel) (by decide +kernel)
set_option maxRecDepth 20000 in
theorem gX6_findsPair_X6_goesOn : GoodIn wsX6_findsPair (wsV RX6 145 RX6 yX6_goesOn wsX6_goesOn) := goodIn_app (goodIn_of _ (by decide +kernel)) ggX6_findsPair_X6_goesOn
set_option maxRecDepth 20000 in
theorem ggX6_findsPair_X6_laysOne : GoodIn wsX6_findsPair wsX6_laysOne := goodIn_r _ [25, 26, 27, 28, 9, 29, 30, 31, 32, 33, 34, 35, 36, 37, 38, 39, 40, 41, 42, 43, 44, 45, 46, 47, 58, 59, 60, 61, 62, 63, 64, 65, 66, 67, 68, 69, 70, 71, 72, 73, 74, 75, 76, 77, 78, 79, 80, 81, 82, 83, 84, 85] (by decide +kernel) (by decide +kernel)
set_option maxRecDepth 20000 in
theorem gX6_findsPair_X6_laysOne : GoodIn wsX6_findsPair (wsV RX6 165 RX6 yX6_laysOne wsX6_laysOne) := goodIn_app (goodIn_of _ (by decide +kernel)) ggX6_findsPair_X6_laysOne
set_option maxRecDepth 20000 in
theorem ggX6_findsPair_X6_isAhead : GoodIn wsX6_findsPair wsX6_isAhead := goodIn_r _ [50] (by decide +kernel) (by decide +kernel)
set_option maxRecDepth 20000 in
theorem gX6_findsPair_X6_isAhead : GoodIn wsX6_findsPair (va_wsS RX6 153 yX6_isAhead wsX6_isAhead) := goodIn_app (goodIn_of _ (by decide +kernel)) ggX6_findsPair_X6_isAhead
set_option maxRecDepth 20000 in
theorem ggX6_findsPair_X6_isBetterPair : GoodIn wsX6_findsPair wsX6_isBetterPair := goodIn_r _ [54, 3, 5, 1, 6, 48, 49, 9, 50, 58, 59, 60, 61, 62, 63, 64, 65, 66, 67, 68, 69, 70, 71, 72, 73, 74, 75, 76, 77, 78, 79, 80, 81, 82, 83, 84, 85] (by decide +kernel) (by decide +kernel)
set_option maxRecDepth 20000 in
theorem gX6_findsPair_X6_isBetterPair : GoodIn wsX6_findsPair (wsV RX6 168 RX6 yX6_isBetterPair wsX6_isBetterPair) := goodIn_app (goodIn_of _ (by decide +kernel)) ggX6_findsPair_X6_isBetterPair
set_option maxRecDepth 20000 in
theorem ggX6_findsPair_X6_copies : GoodIn wsX6_findsPair wsX6_copies := goodIn_r _ [57] (by decide +kernel) (by decide +kernel)
set_option maxRecDepth 20000 in
theorem gX6_findsPair_X6_copies : GoodIn wsX6_findsPair (va_wsS RX6 157 yX6_copies wsX6_copies) := goodIn_app (goodIn_of _ (by decide +kernel)) ggX6_findsPair_X6_copies
theorem dX6_findsPair_0 : decode cX6_findsPair 0 = .ok (.aload_n 0, 1) := by decide +kernel
theorem dX6_findsPair_1 : decode cX6_findsPair 1 = .ok (.getfield 66, 3) := by decide +kernel
theorem dX6_findsPair_4 : decode cX6_findsPair 4 = .ok (.bipush 7, 2) := by decide +kernel
theorem dX6_findsPair_6 : decode cX6_findsPair 6 = .ok (.iconst 0, 1) := by decide +kernel
theorem dX6_findsPair_7 : decode cX6_findsPair 7 = .ok (.iastore, 1) := by decide +kernel
theorem dX6_findsPair_8 : decode cX6_findsPair 8 = .ok (.aload_n 0, 1) := by decide +kernel
theorem dX6_findsPair_9 : decode cX6_findsPair 9 = .ok (.getfield 54, 3) := by decide +kernel
theorem dX6_findsPair_12 : decode cX6_findsPair 12 = .ok (.iload_n 1, 1) := by decide +kernel
theorem dX6_findsPair_13 : decode cX6_findsPair 13 = .ok (.invokestatic 141, 3) := by decide +kernel
theorem dX6_findsPair_16 : decode cX6_findsPair 16 = .ok (.aload_n 0, 1) := by decide +kernel
theorem dX6_findsPair_17 : decode cX6_findsPair 17 = .ok (.aload_n 0, 1) := by decide +kernel
theorem dX6_findsPair_18 : decode cX6_findsPair 18 = .ok (.getfield 54, 3) := by decide +kernel
theorem dX6_findsPair_21 : decode cX6_findsPair 21 = .ok (.iload_n 2, 1) := by decide +kernel
theorem dX6_findsPair_22 : decode cX6_findsPair 22 = .ok (.iconst 0, 1) := by decide +kernel
theorem dX6_findsPair_23 : decode cX6_findsPair 23 = .ok (.invokevirtual 145, 3) := by decide +kernel
theorem dX6_findsPair_26 : decode cX6_findsPair 26 = .ok (.ifCond .eq 141, 3) := by decide +kernel
theorem dX6_findsPair_29 : decode cX6_findsPair 29 = .ok (.aload_n 0, 1) := by decide +kernel
theorem dX6_findsPair_30 : decode cX6_findsPair 30 = .ok (.aload_n 0, 1) := by decide +kernel
theorem dX6_findsPair_31 : decode cX6_findsPair 31 = .ok (.getfield 54, 3) := by decide +kernel
theorem dX6_findsPair_34 : decode cX6_findsPair 34 = .ok (.aload_n 0, 1) := by decide +kernel
theorem dX6_findsPair_35 : decode cX6_findsPair 35 = .ok (.getfield 60, 3) := by decide +kernel
theorem dX6_findsPair_38 : decode cX6_findsPair 38 = .ok (.invokevirtual 165, 3) := by decide +kernel
theorem dX6_findsPair_41 : decode cX6_findsPair 41 = .ok (.ifCond .eq (-25), 3) := by decide +kernel
theorem dX6_findsPair_44 : decode cX6_findsPair 44 = .ok (.iconst 0, 1) := by decide +kernel
theorem dX6_findsPair_45 : decode cX6_findsPair 45 = .ok (.istore_n 3, 1) := by decide +kernel
theorem dX6_findsPair_46 : decode cX6_findsPair 46 = .ok (.iconst 0, 1) := by decide +kernel
theorem dX6_findsPair_47 : decode cX6_findsPair 47 = .ok (.istore 4, 2) := by decide +kernel
theorem dX6_findsPair_49 : decode cX6_findsPair 49 = .ok (.iload 4, 2) := by decide +kernel
theorem dX6_findsPair_51 : decode cX6_findsPair 51 = .ok (.aload_n 0, 1) := by decide +kernel
theorem dX6_findsPair_52 : decode cX6_findsPair 52 = .ok (.getfield 60, 3) := by decide +kernel
theorem dX6_findsPair_55 : decode cX6_findsPair 55 = .ok (.bipush 7, 2) := by decide +kernel
theorem dX6_findsPair_57 : decode cX6_findsPair 57 = .ok (.iaload, 1) := by decide +kernel
theorem dX6_findsPair_58 : decode cX6_findsPair 58 = .ok (.if_icmp .ge 24, 3) := by decide +kernel
theorem dX6_findsPair_61 : decode cX6_findsPair 61 = .ok (.iload_n 3, 1) := by decide +kernel
theorem dX6_findsPair_62 : decode cX6_findsPair 62 = .ok (.iconst 1, 1) := by decide +kernel
theorem dX6_findsPair_63 : decode cX6_findsPair 63 = .ok (.aload_n 0, 1) := by decide +kernel
theorem dX6_findsPair_64 : decode cX6_findsPair 64 = .ok (.getfield 60, 3) := by decide +kernel
theorem dX6_findsPair_67 : decode cX6_findsPair 67 = .ok (.iload 4, 2) := by decide +kernel
theorem dX6_findsPair_69 : decode cX6_findsPair 69 = .ok (.iaload, 1) := by decide +kernel
theorem dX6_findsPair_70 : decode cX6_findsPair 70 = .ok (.bipush 10, 2) := by decide +kernel
theorem dX6_findsPair_72 : decode cX6_findsPair 72 = .ok (.idiv, 1) := by decide +kernel
theorem dX6_findsPair_73 : decode cX6_findsPair 73 = .ok (.ishl, 1) := by decide +kernel
theorem dX6_findsPair_74 : decode cX6_findsPair 74 = .ok (.ior, 1) := by decide +kernel
theorem dX6_findsPair_75 : decode cX6_findsPair 75 = .ok (.istore_n 3, 1) := by decide +kernel
theorem dX6_findsPair_76 : decode cX6_findsPair 76 = .ok (.iinc 4 1, 3) := by decide +kernel
theorem dX6_findsPair_79 : decode cX6_findsPair 79 = .ok (.goto (-30), 3) := by decide +kernel
theorem dX6_findsPair_82 : decode cX6_findsPair 82 = .ok (.aload_n 0, 1) := by decide +kernel
theorem dX6_findsPair_83 : decode cX6_findsPair 83 = .ok (.getfield 57, 3) := by decide +kernel
theorem dX6_findsPair_86 : decode cX6_findsPair 86 = .ok (.iload_n 1, 1) := by decide +kernel
theorem dX6_findsPair_87 : decode cX6_findsPair 87 = .ok (.invokestatic 141, 3) := by decide +kernel
theorem dX6_findsPair_90 : decode cX6_findsPair 90 = .ok (.aload_n 0, 1) := by decide +kernel
theorem dX6_findsPair_91 : decode cX6_findsPair 91 = .ok (.aload_n 0, 1) := by decide +kernel
theorem dX6_findsPair_92 : decode cX6_findsPair 92 = .ok (.getfield 57, 3) := by decide +kernel
theorem dX6_findsPair_95 : decode cX6_findsPair 95 = .ok (.iload_n 2, 1) := by decide +kernel
theorem dX6_findsPair_96 : decode cX6_findsPair 96 = .ok (.iload_n 3, 1) := by decide +kernel
theorem dX6_findsPair_97 : decode cX6_findsPair 97 = .ok (.invokevirtual 145, 3) := by decide +kernel
theorem dX6_findsPair_100 : decode cX6_findsPair 100 = .ok (.ifCond .eq 64, 3) := by decide +kernel
theorem dX6_findsPair_103 : decode cX6_findsPair 103 = .ok (.aload_n 0, 1) := by decide +kernel
theorem dX6_findsPair_104 : decode cX6_findsPair 104 = .ok (.aload_n 0, 1) := by decide +kernel
theorem dX6_findsPair_105 : decode cX6_findsPair 105 = .ok (.getfield 57, 3) := by decide +kernel
theorem dX6_findsPair_108 : decode cX6_findsPair 108 = .ok (.aload_n 0, 1) := by decide +kernel
theorem dX6_findsPair_109 : decode cX6_findsPair 109 = .ok (.getfield 63, 3) := by decide +kernel
theorem dX6_findsPair_112 : decode cX6_findsPair 112 = .ok (.invokevirtual 165, 3) := by decide +kernel
theorem dX6_findsPair_115 : decode cX6_findsPair 115 = .ok (.ifCond .eq (-25), 3) := by decide +kernel
theorem dX6_findsPair_118 : decode cX6_findsPair 118 = .ok (.aload_n 0, 1) := by decide +kernel
theorem dX6_findsPair_119 : decode cX6_findsPair 119 = .ok (.getfield 60, 3) := by decide +kernel
theorem dX6_findsPair_122 : decode cX6_findsPair 122 = .ok (.aload_n 0, 1) := by decide +kernel
theorem dX6_findsPair_123 : decode cX6_findsPair 123 = .ok (.getfield 63, 3) := by decide +kernel
theorem dX6_findsPair_126 : decode cX6_findsPair 126 = .ok (.invokestatic 153, 3) := by decide +kernel
theorem dX6_findsPair_129 : decode cX6_findsPair 129 = .ok (.ifCond .eq (-39), 3) := by decide +kernel
theorem dX6_findsPair_132 : decode cX6_findsPair 132 = .ok (.aload_n 0, 1) := by decide +kernel
theorem dX6_findsPair_133 : decode cX6_findsPair 133 = .ok (.invokevirtual 168, 3) := by decide +kernel
theorem dX6_findsPair_136 : decode cX6_findsPair 136 = .ok (.ifCond .eq (-46), 3) := by decide +kernel
theorem dX6_findsPair_139 : decode cX6_findsPair 139 = .ok (.aload_n 0, 1) := by decide +kernel
theorem dX6_findsPair_140 : decode cX6_findsPair 140 = .ok (.getfield 60, 3) := by decide +kernel
theorem dX6_findsPair_143 : decode cX6_findsPair 143 = .ok (.aload_n 0, 1) := by decide +kernel
theorem dX6_findsPair_144 : decode cX6_findsPair 144 = .ok (.getfield 66, 3) := by decide +kernel
theorem dX6_findsPair_147 : decode cX6_findsPair 147 = .ok (.invokestatic 157, 3) := by decide +kernel
theorem dX6_findsPair_150 : decode cX6_findsPair 150 = .ok (.aload_n 0, 1) := by decide +kernel
theorem dX6_findsPair_151 : decode cX6_findsPair 151 = .ok (.getfield 63, 3) := by decide +kernel
theorem dX6_findsPair_154 : decode cX6_findsPair 154 = .ok (.aload_n 0, 1) := by decide +kernel
theorem dX6_findsPair_155 : decode cX6_findsPair 155 = .ok (.getfield 69, 3) := by decide +kernel
theorem dX6_findsPair_158 : decode cX6_findsPair 158 = .ok (.invokestatic 157, 3) := by decide +kernel
theorem dX6_findsPair_161 : decode cX6_findsPair 161 = .ok (.goto (-71), 3) := by decide +kernel
theorem dX6_findsPair_164 : decode cX6_findsPair 164 = .ok (.goto (-148), 3) := by decide +kernel
theorem dX6_findsPair_167 : decode cX6_findsPair 167 = .ok (.aload_n 0, 1) := by decide +kernel
theorem dX6_findsPair_168 : decode cX6_findsPair 168 = .ok (.getfield 66, 3) := by decide +kernel
theorem dX6_findsPair_171 : decode cX6_findsPair 171 = .ok (.bipush 7, 2) := by decide +kernel
theorem dX6_findsPair_173 : decode cX6_findsPair 173 = .ok (.iaload, 1) := by decide +kernel
theorem dX6_findsPair_174 : decode cX6_findsPair 174 = .ok (.ifCond .le 7, 3) := by decide +kernel
theorem dX6_findsPair_177 : decode cX6_findsPair 177 = .ok (.iconst 1, 1) := by decide +kernel
theorem dX6_findsPair_178 : decode cX6_findsPair 178 = .ok (.goto 4, 3) := by decide +kernel
theorem dX6_findsPair_181 : decode cX6_findsPair 181 = .ok (.iconst 0, 1) := by decide +kernel
theorem dX6_findsPair_182 : decode cX6_findsPair 182 = .ok (.ireturn, 1) := by decide +kernel
set_option maxRecDepth 20000 in
theorem ggX6_isBetterPair_X6_isAhead : GoodIn wsX6_isBetterPair wsX6_isAhead := goodIn_r _ [8] (by decide +kernel) (by decide +kernel)
set_option maxRecDepth 20000 in
theorem gX6_isBetterPair_X6_isAhead : GoodIn wsX6_isBetterPair (va_wsS RX6 153 yX6_isAhead wsX6_isAhead) := goodIn_app (goodIn_of _ (by decide +kernel)) ggX6_isBetterPair_X6_isAhead
theorem dX6_isBetterPair_0 : decode cX6_isBetterPair 0 = .ok (.aload_n 0, 1) := by decide +kernel
theorem dX6_isBetterPair_1 : decode cX6_isBetterPair 1 = .ok (.getfield 60, 3) := by decide +kernel
theorem dX6_isBetterPair_4 : decode cX6_isBetterPair 4 = .ok (.bipush 8, 2) := by decide +kernel
theorem dX6_isBetterPair_6 : decode cX6_isBetterPair 6 = .ok (.iaload, 1) := by decide +kernel
theorem dX6_isBetterPair_7 : decode cX6_isBetterPair 7 = .ok (.aload_n 0, 1) := by decide +kernel
theorem dX6_isBetterPair_8 : decode cX6_isBetterPair 8 = .ok (.getfield 63, 3) := by decide +kernel
theorem dX6_isBetterPair_11 : decode cX6_isBetterPair 11 = .ok (.bipush 8, 2) := by decide +kernel
theorem dX6_isBetterPair_13 : decode cX6_isBetterPair 13 = .ok (.iaload, 1) := by decide +kernel
theorem dX6_isBetterPair_14 : decode cX6_isBetterPair 14 = .ok (.iadd, 1) := by decide +kernel
theorem dX6_isBetterPair_15 : decode cX6_isBetterPair 15 = .ok (.istore_n 1, 1) := by decide +kernel
theorem dX6_isBetterPair_16 : decode cX6_isBetterPair 16 = .ok (.aload_n 0, 1) := by decide +kernel
theorem dX6_isBetterPair_17 : decode cX6_isBetterPair 17 = .ok (.getfield 66, 3) := by decide +kernel
theorem dX6_isBetterPair_20 : decode cX6_isBetterPair 20 = .ok (.bipush 8, 2) := by decide +kernel
theorem dX6_isBetterPair_22 : decode cX6_isBetterPair 22 = .ok (.iaload, 1) := by decide +kernel
theorem dX6_isBetterPair_23 : decode cX6_isBetterPair 23 = .ok (.aload_n 0, 1) := by decide +kernel
theorem dX6_isBetterPair_24 : decode cX6_isBetterPair 24 = .ok (.getfield 69, 3) := by decide +kernel
theorem dX6_isBetterPair_27 : decode cX6_isBetterPair 27 = .ok (.bipush 8, 2) := by decide +kernel
theorem dX6_isBetterPair_29 : decode cX6_isBetterPair 29 = .ok (.iaload, 1) := by decide +kernel
theorem dX6_isBetterPair_30 : decode cX6_isBetterPair 30 = .ok (.iadd, 1) := by decide +kernel
theorem dX6_isBetterPair_31 : decode cX6_isBetterPair 31 = .ok (.istore_n 2, 1) := by decide +kernel
theorem dX6_isBetterPair_32 : decode cX6_isBetterPair 32 = .ok (.aload_n 0, 1) := by decide +kernel
theorem dX6_isBetterPair_33 : decode cX6_isBetterPair 33 = .ok (.getfield 66, 3) := by decide +kernel
theorem dX6_isBetterPair_36 : decode cX6_isBetterPair 36 = .ok (.bipush 7, 2) := by decide +kernel
theorem dX6_isBetterPair_38 : decode cX6_isBetterPair 38 = .ok (.iaload, 1) := by decide +kernel
theorem dX6_isBetterPair_39 : decode cX6_isBetterPair 39 = .ok (.ifCond .eq 8, 3) := by decide +kernel
theorem dX6_isBetterPair_42 : decode cX6_isBetterPair 42 = .ok (.iload_n 1, 1) := by decide +kernel
theorem dX6_isBetterPair_43 : decode cX6_isBetterPair 43 = .ok (.iload_n 2, 1) := by decide +kernel
theorem dX6_isBetterPair_44 : decode cX6_isBetterPair 44 = .ok (.if_icmp .eq 24, 3) := by decide +kernel
theorem dX6_isBetterPair_47 : decode cX6_isBetterPair 47 = .ok (.aload_n 0, 1) := by decide +kernel
theorem dX6_isBetterPair_48 : decode cX6_isBetterPair 48 = .ok (.getfield 66, 3) := by decide +kernel
theorem dX6_isBetterPair_51 : decode cX6_isBetterPair 51 = .ok (.bipush 7, 2) := by decide +kernel
theorem dX6_isBetterPair_53 : decode cX6_isBetterPair 53 = .ok (.iaload, 1) := by decide +kernel
theorem dX6_isBetterPair_54 : decode cX6_isBetterPair 54 = .ok (.ifCond .eq 8, 3) := by decide +kernel
theorem dX6_isBetterPair_57 : decode cX6_isBetterPair 57 = .ok (.iload_n 1, 1) := by decide +kernel
theorem dX6_isBetterPair_58 : decode cX6_isBetterPair 58 = .ok (.iload_n 2, 1) := by decide +kernel
theorem dX6_isBetterPair_59 : decode cX6_isBetterPair 59 = .ok (.if_icmp .ge 7, 3) := by decide +kernel
theorem dX6_isBetterPair_62 : decode cX6_isBetterPair 62 = .ok (.iconst 1, 1) := by decide +kernel
theorem dX6_isBetterPair_63 : decode cX6_isBetterPair 63 = .ok (.goto 4, 3) := by decide +kernel
theorem dX6_isBetterPair_66 : decode cX6_isBetterPair 66 = .ok (.iconst 0, 1) := by decide +kernel
theorem dX6_isBetterPair_67 : decode cX6_isBetterPair 67 = .ok (.ireturn, 1) := by decide +kernel
theorem dX6_isBetterPair_68 : decode cX6_isBetterPair 68 = .ok (.aload_n 0, 1) := by decide +kernel
theorem dX6_isBetterPair_69 : decode cX6_isBetterPair 69 = .ok (.getfield 60, 3) := by decide +kernel
theorem dX6_isBetterPair_72 : decode cX6_isBetterPair 72 = .ok (.aload_n 0, 1) := by decide +kernel
theorem dX6_isBetterPair_73 : decode cX6_isBetterPair 73 = .ok (.getfield 66, 3) := by decide +kernel
theorem dX6_isBetterPair_76 : decode cX6_isBetterPair 76 = .ok (.invokestatic 153, 3) := by decide +kernel
theorem dX6_isBetterPair_79 : decode cX6_isBetterPair 79 = .ok (.ifCond .ne 31, 3) := by decide +kernel
theorem dX6_isBetterPair_82 : decode cX6_isBetterPair 82 = .ok (.aload_n 0, 1) := by decide +kernel
theorem dX6_isBetterPair_83 : decode cX6_isBetterPair 83 = .ok (.getfield 66, 3) := by decide +kernel
theorem dX6_isBetterPair_86 : decode cX6_isBetterPair 86 = .ok (.aload_n 0, 1) := by decide +kernel
theorem dX6_isBetterPair_87 : decode cX6_isBetterPair 87 = .ok (.getfield 60, 3) := by decide +kernel
theorem dX6_isBetterPair_90 : decode cX6_isBetterPair 90 = .ok (.invokestatic 153, 3) := by decide +kernel
theorem dX6_isBetterPair_93 : decode cX6_isBetterPair 93 = .ok (.ifCond .ne 21, 3) := by decide +kernel
theorem dX6_isBetterPair_96 : decode cX6_isBetterPair 96 = .ok (.aload_n 0, 1) := by decide +kernel
theorem dX6_isBetterPair_97 : decode cX6_isBetterPair 97 = .ok (.getfield 63, 3) := by decide +kernel
theorem dX6_isBetterPair_100 : decode cX6_isBetterPair 100 = .ok (.aload_n 0, 1) := by decide +kernel
theorem dX6_isBetterPair_101 : decode cX6_isBetterPair 101 = .ok (.getfield 69, 3) := by decide +kernel
theorem dX6_isBetterPair_104 : decode cX6_isBetterPair 104 = .ok (.invokestatic 153, 3) := by decide +kernel
theorem dX6_isBetterPair_107 : decode cX6_isBetterPair 107 = .ok (.ifCond .eq 7, 3) := by decide +kernel
theorem dX6_isBetterPair_110 : decode cX6_isBetterPair 110 = .ok (.iconst 1, 1) := by decide +kernel
theorem dX6_isBetterPair_111 : decode cX6_isBetterPair 111 = .ok (.goto 4, 3) := by decide +kernel
theorem dX6_isBetterPair_114 : decode cX6_isBetterPair 114 = .ok (.iconst 0, 1) := by decide +kernel
theorem dX6_isBetterPair_115 : decode cX6_isBetterPair 115 = .ok (.ireturn, 1) := by decide +kernel
set_option maxRecDepth 20000 in
theorem ggX6_findsBy_X6_finds : GoodIn wsX6_findsBy wsX6_finds := goodIn_r _ [5, 6, 7, 8, 9, 10, 4, 11, 12, 13, 14, 15, 16, 17, 18, 19, 20, 21, 22, 23, 24, 25, 26, 27, 28, 29, 30, 31, 32, 33, 34, 35, 36, 37, 38, 39, 40, 41, 42, 43, 44, 45, 46, 47, 48, 49, 50, 70, 71, 72, 73, 74, 75, 76, 77, 78, 79, 80, 81, 82, 83, 84, 85, 86, 87, 88, 89, 90, 91, 92, 93, 94, 95, 96, 97] (by decide +kernel) (by decide +kernel)
set_option maxRecDepth 20000 in
theorem gX6_findsBy_X6_finds : GoodIn wsX6_findsBy (wsV RX6 161 RX6 yX6_finds wsX6_finds) := goodIn_app (goodIn_of _ (by decide +kernel)) ggX6_findsBy_X6_finds
set_option maxRecDepth 20000 in
theorem ggX6_findsBy_X6_findsOneWavelength : GoodIn wsX6_findsBy wsX6_findsOneWavelength := goodIn_r _ [54, 27, 1, 2, 3, 4, 5, 6, 7, 8, 9, 10, 11, 12, 13, 14, 15, 16, 17, 18, 19, 20, 21, 22, 23, 24, 25, 26, 28, 29, 30, 31, 32, 33, 34, 35, 36, 37, 38, 39, 40, 41, 42, 43, 44, 45, 46, 47, 48, 49, 50, 70, 71, 72, 73, 74, 75, 76, 77, 78, 79, 80, 81, 82, 83, 84, 85, 86, 87, 88, 89, 90, 91, 92, 93, 94, 95, 96, 97] (by decide +kernel) (by decide +kernel)
set_option maxRecDepth 20000 in
theorem gX6_findsBy_X6_findsOneWavelength : GoodIn wsX6_findsBy (wsV RX6 172 RX6 yX6_findsOneWavelength wsX6_findsOneWavelength) := goodIn_app (goodIn_of _ (by decide +kernel)) ggX6_findsBy_X6_findsOneWavelength
set_option maxRecDepth 20000 in
theorem ggX6_findsBy_X6_findsPair : GoodIn wsX6_findsBy wsX6_findsPair := goodIn_r _ [58, 6, 7, 8, 59, 60, 61, 9, 10, 4, 11, 12, 13, 14, 15, 16, 17, 18, 19, 20, 21, 22, 62, 63, 64, 65, 30, 31, 32, 33, 27, 34, 35, 23, 24, 25, 26, 28, 29, 36, 37, 38, 39, 40, 41, 42, 43, 44, 45, 46, 47, 66, 67, 68, 69, 48, 49, 50, 70, 71, 72, 73, 74, 75, 76, 77, 78, 79, 80, 81, 82, 83, 84, 85, 86, 87, 88, 89, 90, 91, 92, 93, 94, 95, 96, 97] (by decide +kernel) (by decide +kernel)
set_option maxRecDepth 20000 in
theorem gX6_findsBy_X6_findsPair : GoodIn wsX6_findsBy (wsV RX6 175 RX6 yX6_findsPair wsX6_findsPair) := goodIn_app (goodIn_of _ (by decide +kernel)) ggX6_findsBy_X6_findsPair
theorem dX6_findsBy_0 : decode cX6_findsBy 0 = .ok (.iload_n 3, 1) := by decide +kernel
theorem dX6_findsBy_1 : decode cX6_findsBy 1 = .ok (.ifCond .ne 16, 3) := by decide +kernel
theorem dX6_findsBy_4 : decode cX6_findsBy 4 = .ok (.aload_n 0, 1) := by decide +kernel
theorem dX6_findsBy_5 : decode cX6_findsBy 5 = .ok (.iload_n 1, 1) := by decide +kernel
theorem dX6_findsBy_6 : decode cX6_findsBy 6 = .ok (.iload_n 2, 1) := by decide +kernel
theorem dX6_findsBy_7 : decode cX6_findsBy 7 = .ok (.iconst (-1), 1) := by decide +kernel
theorem dX6_findsBy_8 : decode cX6_findsBy 8 = .ok (.sipush 255, 3) := by decide +kernel
theorem dX6_findsBy_11 : decode cX6_findsBy 11 = .ok (.invokevirtual 161, 3) := by decide +kernel
theorem dX6_findsBy_14 : decode cX6_findsBy 14 = .ok (.goto 23, 3) := by decide +kernel
theorem dX6_findsBy_17 : decode cX6_findsBy 17 = .ok (.iload_n 3, 1) := by decide +kernel
theorem dX6_findsBy_18 : decode cX6_findsBy 18 = .ok (.iconst 1, 1) := by decide +kernel
theorem dX6_findsBy_19 : decode cX6_findsBy 19 = .ok (.if_icmp .ne 12, 3) := by decide +kernel
theorem dX6_findsBy_22 : decode cX6_findsBy 22 = .ok (.aload_n 0, 1) := by decide +kernel
theorem dX6_findsBy_23 : decode cX6_findsBy 23 = .ok (.iload_n 1, 1) := by decide +kernel
theorem dX6_findsBy_24 : decode cX6_findsBy 24 = .ok (.iload_n 2, 1) := by decide +kernel
theorem dX6_findsBy_25 : decode cX6_findsBy 25 = .ok (.invokevirtual 172, 3) := by decide +kernel
theorem dX6_findsBy_28 : decode cX6_findsBy 28 = .ok (.goto 9, 3) := by decide +kernel
theorem dX6_findsBy_31 : decode cX6_findsBy 31 = .ok (.aload_n 0, 1) := by decide +kernel
theorem dX6_findsBy_32 : decode cX6_findsBy 32 = .ok (.iload_n 1, 1) := by decide +kernel
theorem dX6_findsBy_33 : decode cX6_findsBy 33 = .ok (.iload_n 2, 1) := by decide +kernel
theorem dX6_findsBy_34 : decode cX6_findsBy 34 = .ok (.invokevirtual 175, 3) := by decide +kernel
theorem dX6_findsBy_37 : decode cX6_findsBy 37 = .ok (.ireturn, 1) := by decide +kernel
theorem dX6_way_0 : decode cX6_way 0 = .ok (.aload_n 0, 1) := by decide +kernel
theorem dX6_way_1 : decode cX6_way 1 = .ok (.getfield 51, 3) := by decide +kernel
theorem dX6_way_4 : decode cX6_way 4 = .ok (.bipush 20, 2) := by decide +kernel
theorem dX6_way_6 : decode cX6_way 6 = .ok (.iload_n 1, 1) := by decide +kernel
theorem dX6_way_7 : decode cX6_way 7 = .ok (.imul, 1) := by decide +kernel
theorem dX6_way_8 : decode cX6_way 8 = .ok (.bipush 10, 2) := by decide +kernel
theorem dX6_way_10 : decode cX6_way 10 = .ok (.iload_n 2, 1) := by decide +kernel
theorem dX6_way_11 : decode cX6_way 11 = .ok (.imul, 1) := by decide +kernel
theorem dX6_way_12 : decode cX6_way 12 = .ok (.iadd, 1) := by decide +kernel
theorem dX6_way_13 : decode cX6_way 13 = .ok (.iload_n 3, 1) := by decide +kernel
theorem dX6_way_14 : decode cX6_way 14 = .ok (.iadd, 1) := by decide +kernel
theorem dX6_way_15 : decode cX6_way 15 = .ok (.iaload, 1) := by decide +kernel
theorem dX6_way_16 : decode cX6_way 16 = .ok (.ireturn, 1) := by decide +kernel
set_option maxRecDepth 20000 in
theorem ggX6_isUp_X6_way : GoodIn wsX6_isUp wsX6_way := goodIn_r _ [7, 8, 9, 10, 11, 12, 13, 14, 15, 16, 17, 18, 19, 20, 21, 22, 23, 24, 25, 26, 27, 28, 29, 30, 31, 32, 33, 34, 35, 36] (by decide +kernel) (by decide +kernel)
set_option maxRecDepth 20000 in
theorem gX6_isUp_X6_way : GoodIn wsX6_isUp (wsV RX6 178 RX6 yX6_way wsX6_way) := goodIn_app (goodIn_of _ (by decide +kernel)) ggX6_isUp_X6_way
theorem dX6_isUp_0 : decode cX6_isUp 0 = .ok (.iconst 0, 1) := by decide +kernel
theorem dX6_isUp_1 : decode cX6_isUp 1 = .ok (.istore_n 2, 1) := by decide +kernel
theorem dX6_isUp_2 : decode cX6_isUp 2 = .ok (.iload_n 2, 1) := by decide +kernel
theorem dX6_isUp_3 : decode cX6_isUp 3 = .ok (.aload_n 0, 1) := by decide +kernel
theorem dX6_isUp_4 : decode cX6_isUp 4 = .ok (.getfield 48, 3) := by decide +kernel
theorem dX6_isUp_7 : decode cX6_isUp 7 = .ok (.iload_n 1, 1) := by decide +kernel
theorem dX6_isUp_8 : decode cX6_isUp 8 = .ok (.iaload, 1) := by decide +kernel
theorem dX6_isUp_9 : decode cX6_isUp 9 = .ok (.if_icmp .ge 68, 3) := by decide +kernel
theorem dX6_isUp_12 : decode cX6_isUp 12 = .ok (.iconst 1, 1) := by decide +kernel
theorem dX6_isUp_13 : decode cX6_isUp 13 = .ok (.istore_n 3, 1) := by decide +kernel
theorem dX6_isUp_14 : decode cX6_isUp 14 = .ok (.iconst 0, 1) := by decide +kernel
theorem dX6_isUp_15 : decode cX6_isUp 15 = .ok (.istore 4, 2) := by decide +kernel
theorem dX6_isUp_17 : decode cX6_isUp 17 = .ok (.iload 4, 2) := by decide +kernel
theorem dX6_isUp_19 : decode cX6_isUp 19 = .ok (.aload_n 0, 1) := by decide +kernel
theorem dX6_isUp_20 : decode cX6_isUp 20 = .ok (.iload_n 1, 1) := by decide +kernel
theorem dX6_isUp_21 : decode cX6_isUp 21 = .ok (.iload_n 2, 1) := by decide +kernel
theorem dX6_isUp_22 : decode cX6_isUp 22 = .ok (.bipush 7, 2) := by decide +kernel
theorem dX6_isUp_24 : decode cX6_isUp 24 = .ok (.invokevirtual 178, 3) := by decide +kernel
theorem dX6_isUp_27 : decode cX6_isUp 27 = .ok (.if_icmp .ge 38, 3) := by decide +kernel
theorem dX6_isUp_30 : decode cX6_isUp 30 = .ok (.iload_n 3, 1) := by decide +kernel
theorem dX6_isUp_31 : decode cX6_isUp 31 = .ok (.ifCond .eq 26, 3) := by decide +kernel
theorem dX6_isUp_34 : decode cX6_isUp 34 = .ok (.aload_n 0, 1) := by decide +kernel
theorem dX6_isUp_35 : decode cX6_isUp 35 = .ok (.getfield 30, 3) := by decide +kernel
theorem dX6_isUp_38 : decode cX6_isUp 38 = .ok (.aload_n 0, 1) := by decide +kernel
theorem dX6_isUp_39 : decode cX6_isUp 39 = .ok (.iload_n 1, 1) := by decide +kernel
theorem dX6_isUp_40 : decode cX6_isUp 40 = .ok (.iload_n 2, 1) := by decide +kernel
theorem dX6_isUp_41 : decode cX6_isUp 41 = .ok (.iload 4, 2) := by decide +kernel
theorem dX6_isUp_43 : decode cX6_isUp 43 = .ok (.invokevirtual 178, 3) := by decide +kernel
theorem dX6_isUp_46 : decode cX6_isUp 46 = .ok (.bipush 10, 2) := by decide +kernel
theorem dX6_isUp_48 : decode cX6_isUp 48 = .ok (.idiv, 1) := by decide +kernel
theorem dX6_isUp_49 : decode cX6_isUp 49 = .ok (.baload, 1) := by decide +kernel
theorem dX6_isUp_50 : decode cX6_isUp 50 = .ok (.ifCond .ne 7, 3) := by decide +kernel
theorem dX6_isUp_53 : decode cX6_isUp 53 = .ok (.iconst 1, 1) := by decide +kernel
theorem dX6_isUp_54 : decode cX6_isUp 54 = .ok (.goto 4, 3) := by decide +kernel
theorem dX6_isUp_57 : decode cX6_isUp 57 = .ok (.iconst 0, 1) := by decide +kernel
theorem dX6_isUp_58 : decode cX6_isUp 58 = .ok (.istore_n 3, 1) := by decide +kernel
theorem dX6_isUp_59 : decode cX6_isUp 59 = .ok (.iinc 4 1, 3) := by decide +kernel
theorem dX6_isUp_62 : decode cX6_isUp 62 = .ok (.goto (-45), 3) := by decide +kernel
theorem dX6_isUp_65 : decode cX6_isUp 65 = .ok (.iload_n 3, 1) := by decide +kernel
theorem dX6_isUp_66 : decode cX6_isUp 66 = .ok (.ifCond .eq 5, 3) := by decide +kernel
theorem dX6_isUp_69 : decode cX6_isUp 69 = .ok (.iconst 1, 1) := by decide +kernel
theorem dX6_isUp_70 : decode cX6_isUp 70 = .ok (.ireturn, 1) := by decide +kernel
theorem dX6_isUp_71 : decode cX6_isUp 71 = .ok (.iinc 2 1, 3) := by decide +kernel
theorem dX6_isUp_74 : decode cX6_isUp 74 = .ok (.goto (-72), 3) := by decide +kernel
theorem dX6_isUp_77 : decode cX6_isUp 77 = .ok (.iconst 0, 1) := by decide +kernel
theorem dX6_isUp_78 : decode cX6_isUp 78 = .ok (.ireturn, 1) := by decide +kernel
theorem dX6_carried_0 : decode cX6_carried 0 = .ok (.iconst 0, 1) := by decide +kernel
theorem dX6_carried_1 : decode cX6_carried 1 = .ok (.istore_n 2, 1) := by decide +kernel
theorem dX6_carried_2 : decode cX6_carried 2 = .ok (.iconst 0, 1) := by decide +kernel
theorem dX6_carried_3 : decode cX6_carried 3 = .ok (.istore_n 3, 1) := by decide +kernel
theorem dX6_carried_4 : decode cX6_carried 4 = .ok (.iload_n 3, 1) := by decide +kernel
theorem dX6_carried_5 : decode cX6_carried 5 = .ok (.aload_n 0, 1) := by decide +kernel
theorem dX6_carried_6 : decode cX6_carried 6 = .ok (.getfield 93, 3) := by decide +kernel
theorem dX6_carried_9 : decode cX6_carried 9 = .ok (.if_icmp .ge 32, 3) := by decide +kernel
theorem dX6_carried_12 : decode cX6_carried 12 = .ok (.iload_n 2, 1) := by decide +kernel
theorem dX6_carried_13 : decode cX6_carried 13 = .ok (.aload_n 0, 1) := by decide +kernel
theorem dX6_carried_14 : decode cX6_carried 14 = .ok (.getfield 36, 3) := by decide +kernel
theorem dX6_carried_17 : decode cX6_carried 17 = .ok (.iload_n 3, 1) := by decide +kernel
theorem dX6_carried_18 : decode cX6_carried 18 = .ok (.iaload, 1) := by decide +kernel
theorem dX6_carried_19 : decode cX6_carried 19 = .ok (.iload_n 1, 1) := by decide +kernel
theorem dX6_carried_20 : decode cX6_carried 20 = .ok (.if_icmp .ne 12, 3) := by decide +kernel
theorem dX6_carried_23 : decode cX6_carried 23 = .ok (.aload_n 0, 1) := by decide +kernel
theorem dX6_carried_24 : decode cX6_carried 24 = .ok (.getfield 39, 3) := by decide +kernel
theorem dX6_carried_27 : decode cX6_carried 27 = .ok (.iload_n 3, 1) := by decide +kernel
theorem dX6_carried_28 : decode cX6_carried 28 = .ok (.iaload, 1) := by decide +kernel
theorem dX6_carried_29 : decode cX6_carried 29 = .ok (.goto 4, 3) := by decide +kernel
theorem dX6_carried_32 : decode cX6_carried 32 = .ok (.iconst 0, 1) := by decide +kernel
theorem dX6_carried_33 : decode cX6_carried 33 = .ok (.iadd, 1) := by decide +kernel
theorem dX6_carried_34 : decode cX6_carried 34 = .ok (.istore_n 2, 1) := by decide +kernel
theorem dX6_carried_35 : decode cX6_carried 35 = .ok (.iinc 3 1, 3) := by decide +kernel
theorem dX6_carried_38 : decode cX6_carried 38 = .ok (.goto (-34), 3) := by decide +kernel
theorem dX6_carried_41 : decode cX6_carried 41 = .ok (.iload_n 2, 1) := by decide +kernel
theorem dX6_carried_42 : decode cX6_carried 42 = .ok (.ireturn, 1) := by decide +kernel
theorem dX6_placeOf_0 : decode cX6_placeOf 0 = .ok (.bipush 8, 2) := by decide +kernel
theorem dX6_placeOf_2 : decode cX6_placeOf 2 = .ok (.iload_n 0, 1) := by decide +kernel
theorem dX6_placeOf_3 : decode cX6_placeOf 3 = .ok (.bipush 10, 2) := by decide +kernel
theorem dX6_placeOf_5 : decode cX6_placeOf 5 = .ok (.idiv, 1) := by decide +kernel
theorem dX6_placeOf_6 : decode cX6_placeOf 6 = .ok (.imul, 1) := by decide +kernel
theorem dX6_placeOf_7 : decode cX6_placeOf 7 = .ok (.iload_n 0, 1) := by decide +kernel
theorem dX6_placeOf_8 : decode cX6_placeOf 8 = .ok (.bipush 10, 2) := by decide +kernel
theorem dX6_placeOf_10 : decode cX6_placeOf 10 = .ok (.irem, 1) := by decide +kernel
theorem dX6_placeOf_11 : decode cX6_placeOf 11 = .ok (.iadd, 1) := by decide +kernel
theorem dX6_placeOf_12 : decode cX6_placeOf 12 = .ok (.ireturn, 1) := by decide +kernel
set_option maxRecDepth 20000 in
theorem ggX6_uses_X6_way : GoodIn wsX6_uses wsX6_way := goodIn_r _ [6, 7, 11, 12, 13, 14, 15, 16, 17, 18, 19, 20, 21, 22, 23, 24, 25, 26, 27, 28, 29, 30, 31, 32, 33, 34, 35, 36, 37, 38] (by decide +kernel) (by decide +kernel)
set_option maxRecDepth 20000 in
theorem gX6_uses_X6_way : GoodIn wsX6_uses (wsV RX6 178 RX6 yX6_way wsX6_way) := goodIn_app (goodIn_of _ (by decide +kernel)) ggX6_uses_X6_way
set_option maxRecDepth 20000 in
theorem ggX6_uses_X6_placeOf : GoodIn wsX6_uses wsX6_placeOf := goodIn_r _ [10] (by decide +kernel) (by decide +kernel)
set_option maxRecDepth 20000 in
theorem gX6_uses_X6_placeOf : GoodIn wsX6_uses (va_wsS RX6 182 yX6_placeOf wsX6_placeOf) := goodIn_app (goodIn_of _ (by decide +kernel)) ggX6_uses_X6_placeOf
theorem dX6_uses_0 : decode cX6_uses 0 = .ok (.iconst 0, 1) := by decide +kernel
theorem dX6_uses_1 : decode cX6_uses 1 = .ok (.istore 4, 2) := by decide +kernel
theorem dX6_uses_3 : decode cX6_uses 3 = .ok (.iload 4, 2) := by decide +kernel
theorem dX6_uses_5 : decode cX6_uses 5 = .ok (.aload_n 0, 1) := by decide +kernel
theorem dX6_uses_6 : decode cX6_uses 6 = .ok (.iload_n 1, 1) := by decide +kernel
theorem dX6_uses_7 : decode cX6_uses 7 = .ok (.iload_n 2, 1) := by decide +kernel
theorem dX6_uses_8 : decode cX6_uses 8 = .ok (.bipush 7, 2) := by decide +kernel
theorem dX6_uses_10 : decode cX6_uses 10 = .ok (.invokevirtual 178, 3) := by decide +kernel
theorem dX6_uses_13 : decode cX6_uses 13 = .ok (.if_icmp .ge 26, 3) := by decide +kernel
theorem dX6_uses_16 : decode cX6_uses 16 = .ok (.aload_n 0, 1) := by decide +kernel
theorem dX6_uses_17 : decode cX6_uses 17 = .ok (.getfield 33, 3) := by decide +kernel
theorem dX6_uses_20 : decode cX6_uses 20 = .ok (.aload_n 0, 1) := by decide +kernel
theorem dX6_uses_21 : decode cX6_uses 21 = .ok (.iload_n 1, 1) := by decide +kernel
theorem dX6_uses_22 : decode cX6_uses 22 = .ok (.iload_n 2, 1) := by decide +kernel
theorem dX6_uses_23 : decode cX6_uses 23 = .ok (.iload 4, 2) := by decide +kernel
theorem dX6_uses_25 : decode cX6_uses 25 = .ok (.invokevirtual 178, 3) := by decide +kernel
theorem dX6_uses_28 : decode cX6_uses 28 = .ok (.invokestatic 182, 3) := by decide +kernel
theorem dX6_uses_31 : decode cX6_uses 31 = .ok (.iload_n 3, 1) := by decide +kernel
theorem dX6_uses_32 : decode cX6_uses 32 = .ok (.iastore, 1) := by decide +kernel
theorem dX6_uses_33 : decode cX6_uses 33 = .ok (.iinc 4 1, 3) := by decide +kernel
theorem dX6_uses_36 : decode cX6_uses 36 = .ok (.goto (-33), 3) := by decide +kernel
theorem dX6_uses_39 : decode cX6_uses 39 = .ok (.return_, 1) := by decide +kernel
set_option maxRecDepth 20000 in
theorem ggX6_gets_X6_uses : GoodIn wsX6_gets wsX6_uses := goodIn_r _ [6, 7, 8, 9, 10, 5, 11, 1, 12, 13, 14, 15, 16, 17, 18, 19, 20, 21, 22, 23, 24, 25, 26, 27, 28, 29, 30, 31, 32, 33, 34, 35, 36, 37, 38, 39, 40, 41, 42] (by decide +kernel) (by decide +kernel)
set_option maxRecDepth 20000 in
theorem gX6_gets_X6_uses : GoodIn wsX6_gets (wsV RX6 185 RX6 yX6_uses wsX6_uses) := goodIn_app (goodIn_of _ (by decide +kernel)) ggX6_gets_X6_uses
theorem dX6_gets_0 : decode cX6_gets 0 = .ok (.iconst 0, 1) := by decide +kernel
theorem dX6_gets_1 : decode cX6_gets 1 = .ok (.istore 4, 2) := by decide +kernel
theorem dX6_gets_3 : decode cX6_gets 3 = .ok (.iload 4, 2) := by decide +kernel
theorem dX6_gets_5 : decode cX6_gets 5 = .ok (.bipush 10, 2) := by decide +kernel
theorem dX6_gets_7 : decode cX6_gets 7 = .ok (.if_icmp .ge 30, 3) := by decide +kernel
theorem dX6_gets_10 : decode cX6_gets 10 = .ok (.aload_n 0, 1) := by decide +kernel
theorem dX6_gets_11 : decode cX6_gets 11 = .ok (.getfield 51, 3) := by decide +kernel
theorem dX6_gets_14 : decode cX6_gets 14 = .ok (.bipush 20, 2) := by decide +kernel
theorem dX6_gets_16 : decode cX6_gets 16 = .ok (.iload_n 1, 1) := by decide +kernel
theorem dX6_gets_17 : decode cX6_gets 17 = .ok (.imul, 1) := by decide +kernel
theorem dX6_gets_18 : decode cX6_gets 18 = .ok (.bipush 10, 2) := by decide +kernel
theorem dX6_gets_20 : decode cX6_gets 20 = .ok (.iload_n 2, 1) := by decide +kernel
theorem dX6_gets_21 : decode cX6_gets 21 = .ok (.imul, 1) := by decide +kernel
theorem dX6_gets_22 : decode cX6_gets 22 = .ok (.iadd, 1) := by decide +kernel
theorem dX6_gets_23 : decode cX6_gets 23 = .ok (.iload 4, 2) := by decide +kernel
theorem dX6_gets_25 : decode cX6_gets 25 = .ok (.iadd, 1) := by decide +kernel
theorem dX6_gets_26 : decode cX6_gets 26 = .ok (.aload_n 3, 1) := by decide +kernel
theorem dX6_gets_27 : decode cX6_gets 27 = .ok (.iload 4, 2) := by decide +kernel
theorem dX6_gets_29 : decode cX6_gets 29 = .ok (.iaload, 1) := by decide +kernel
theorem dX6_gets_30 : decode cX6_gets 30 = .ok (.iastore, 1) := by decide +kernel
theorem dX6_gets_31 : decode cX6_gets 31 = .ok (.iinc 4 1, 3) := by decide +kernel
theorem dX6_gets_34 : decode cX6_gets 34 = .ok (.goto (-31), 3) := by decide +kernel
theorem dX6_gets_37 : decode cX6_gets 37 = .ok (.aload_n 0, 1) := by decide +kernel
theorem dX6_gets_38 : decode cX6_gets 38 = .ok (.iload_n 1, 1) := by decide +kernel
theorem dX6_gets_39 : decode cX6_gets 39 = .ok (.iload_n 2, 1) := by decide +kernel
theorem dX6_gets_40 : decode cX6_gets 40 = .ok (.iload_n 1, 1) := by decide +kernel
theorem dX6_gets_41 : decode cX6_gets 41 = .ok (.invokevirtual 185, 3) := by decide +kernel
theorem dX6_gets_44 : decode cX6_gets 44 = .ok (.return_, 1) := by decide +kernel
set_option maxRecDepth 20000 in
theorem ggX6_ends_X6_uses : GoodIn wsX6_ends wsX6_uses := goodIn_r _ [6, 7, 8, 9, 10, 5, 11, 12, 13, 14, 15, 16, 17, 18, 19, 20, 21, 22, 23, 24, 25, 26, 27, 28, 29, 30, 31, 32, 33, 34, 35, 36, 37, 38, 39, 40, 41, 42, 43] (by decide +kernel) (by decide +kernel)
set_option maxRecDepth 20000 in
theorem gX6_ends_X6_uses : GoodIn wsX6_ends (wsV RX6 185 RX6 yX6_uses wsX6_uses) := goodIn_app (goodIn_of _ (by decide +kernel)) ggX6_ends_X6_uses
theorem dX6_ends_0 : decode cX6_ends 0 = .ok (.iconst 0, 1) := by decide +kernel
theorem dX6_ends_1 : decode cX6_ends 1 = .ok (.istore_n 2, 1) := by decide +kernel
theorem dX6_ends_2 : decode cX6_ends 2 = .ok (.iload_n 2, 1) := by decide +kernel
theorem dX6_ends_3 : decode cX6_ends 3 = .ok (.aload_n 0, 1) := by decide +kernel
theorem dX6_ends_4 : decode cX6_ends 4 = .ok (.getfield 48, 3) := by decide +kernel
theorem dX6_ends_7 : decode cX6_ends 7 = .ok (.iload_n 1, 1) := by decide +kernel
theorem dX6_ends_8 : decode cX6_ends 8 = .ok (.iaload, 1) := by decide +kernel
theorem dX6_ends_9 : decode cX6_ends 9 = .ok (.if_icmp .ge 16, 3) := by decide +kernel
theorem dX6_ends_12 : decode cX6_ends 12 = .ok (.aload_n 0, 1) := by decide +kernel
theorem dX6_ends_13 : decode cX6_ends 13 = .ok (.iload_n 1, 1) := by decide +kernel
theorem dX6_ends_14 : decode cX6_ends 14 = .ok (.iload_n 2, 1) := by decide +kernel
theorem dX6_ends_15 : decode cX6_ends 15 = .ok (.iconst (-1), 1) := by decide +kernel
theorem dX6_ends_16 : decode cX6_ends 16 = .ok (.invokevirtual 185, 3) := by decide +kernel
theorem dX6_ends_19 : decode cX6_ends 19 = .ok (.iinc 2 1, 3) := by decide +kernel
theorem dX6_ends_22 : decode cX6_ends 22 = .ok (.goto (-20), 3) := by decide +kernel
theorem dX6_ends_25 : decode cX6_ends 25 = .ok (.aload_n 0, 1) := by decide +kernel
theorem dX6_ends_26 : decode cX6_ends 26 = .ok (.getfield 48, 3) := by decide +kernel
theorem dX6_ends_29 : decode cX6_ends 29 = .ok (.iload_n 1, 1) := by decide +kernel
theorem dX6_ends_30 : decode cX6_ends 30 = .ok (.iconst 0, 1) := by decide +kernel
theorem dX6_ends_31 : decode cX6_ends 31 = .ok (.iastore, 1) := by decide +kernel
theorem dX6_ends_32 : decode cX6_ends 32 = .ok (.return_, 1) := by decide +kernel
theorem dX6_haveSameEnds_0 : decode cX6_haveSameEnds 0 = .ok (.aload_n 0, 1) := by decide +kernel
theorem dX6_haveSameEnds_1 : decode cX6_haveSameEnds 1 = .ok (.getfield 42, 3) := by decide +kernel
theorem dX6_haveSameEnds_4 : decode cX6_haveSameEnds 4 = .ok (.iload_n 1, 1) := by decide +kernel
theorem dX6_haveSameEnds_5 : decode cX6_haveSameEnds 5 = .ok (.iaload, 1) := by decide +kernel
theorem dX6_haveSameEnds_6 : decode cX6_haveSameEnds 6 = .ok (.iload_n 2, 1) := by decide +kernel
theorem dX6_haveSameEnds_7 : decode cX6_haveSameEnds 7 = .ok (.if_icmp .ne 13, 3) := by decide +kernel
theorem dX6_haveSameEnds_10 : decode cX6_haveSameEnds 10 = .ok (.aload_n 0, 1) := by decide +kernel
theorem dX6_haveSameEnds_11 : decode cX6_haveSameEnds 11 = .ok (.getfield 45, 3) := by decide +kernel
theorem dX6_haveSameEnds_14 : decode cX6_haveSameEnds 14 = .ok (.iload_n 1, 1) := by decide +kernel
theorem dX6_haveSameEnds_15 : decode cX6_haveSameEnds 15 = .ok (.iaload, 1) := by decide +kernel
theorem dX6_haveSameEnds_16 : decode cX6_haveSameEnds 16 = .ok (.iload_n 3, 1) := by decide +kernel
theorem dX6_haveSameEnds_17 : decode cX6_haveSameEnds 17 = .ok (.if_icmp .eq 23, 3) := by decide +kernel
theorem dX6_haveSameEnds_20 : decode cX6_haveSameEnds 20 = .ok (.aload_n 0, 1) := by decide +kernel
theorem dX6_haveSameEnds_21 : decode cX6_haveSameEnds 21 = .ok (.getfield 42, 3) := by decide +kernel
theorem dX6_haveSameEnds_24 : decode cX6_haveSameEnds 24 = .ok (.iload_n 1, 1) := by decide +kernel
theorem dX6_haveSameEnds_25 : decode cX6_haveSameEnds 25 = .ok (.iaload, 1) := by decide +kernel
theorem dX6_haveSameEnds_26 : decode cX6_haveSameEnds 26 = .ok (.iload_n 3, 1) := by decide +kernel
theorem dX6_haveSameEnds_27 : decode cX6_haveSameEnds 27 = .ok (.if_icmp .ne 17, 3) := by decide +kernel
theorem dX6_haveSameEnds_30 : decode cX6_haveSameEnds 30 = .ok (.aload_n 0, 1) := by decide +kernel
theorem dX6_haveSameEnds_31 : decode cX6_haveSameEnds 31 = .ok (.getfield 45, 3) := by decide +kernel
theorem dX6_haveSameEnds_34 : decode cX6_haveSameEnds 34 = .ok (.iload_n 1, 1) := by decide +kernel
theorem dX6_haveSameEnds_35 : decode cX6_haveSameEnds 35 = .ok (.iaload, 1) := by decide +kernel
theorem dX6_haveSameEnds_36 : decode cX6_haveSameEnds 36 = .ok (.iload_n 2, 1) := by decide +kernel
theorem dX6_haveSameEnds_37 : decode cX6_haveSameEnds 37 = .ok (.if_icmp .ne 7, 3) := by decide +kernel
theorem dX6_haveSameEnds_40 : decode cX6_haveSameEnds 40 = .ok (.iconst 1, 1) := by decide +kernel
theorem dX6_haveSameEnds_41 : decode cX6_haveSameEnds 41 = .ok (.goto 4, 3) := by decide +kernel
theorem dX6_haveSameEnds_44 : decode cX6_haveSameEnds 44 = .ok (.iconst 0, 1) := by decide +kernel
theorem dX6_haveSameEnds_45 : decode cX6_haveSameEnds 45 = .ok (.ireturn, 1) := by decide +kernel
set_option maxRecDepth 20000 in
theorem ggX6_roomFor_X6_isUp : GoodIn wsX6_roomFor wsX6_isUp := goodIn_r _ [7, 2, 8, 9, 10, 11, 6, 12, 13, 27, 28, 29, 30, 31, 32, 33, 34, 35, 36, 37, 38, 39, 40, 41, 42, 43, 44, 45, 46, 47, 48, 49, 50, 51, 52, 53, 54] (by decide +kernel) (by decide +kernel)
set_option maxRecDepth 20000 in
theorem gX6_roomFor_X6_isUp : GoodIn wsX6_roomFor (wsV RX6 111 RX6 yX6_isUp wsX6_isUp) := goodIn_app (goodIn_of _ (by decide +kernel)) ggX6_roomFor_X6_isUp
set_option maxRecDepth 20000 in
theorem ggX6_roomFor_X6_haveSameEnds : GoodIn wsX6_roomFor wsX6_haveSameEnds := goodIn_r _ [17, 18, 19, 27, 28, 29, 30, 31, 32, 33, 34, 35, 36, 37, 38, 39, 40, 41, 42, 43, 44, 45, 46, 47, 48, 49, 50, 51, 52, 53, 54] (by decide +kernel) (by decide +kernel)
set_option maxRecDepth 20000 in
theorem gX6_roomFor_X6_haveSameEnds : GoodIn wsX6_roomFor (wsV RX6 189 RX6 yX6_haveSameEnds wsX6_haveSameEnds) := goodIn_app (goodIn_of _ (by decide +kernel)) ggX6_roomFor_X6_haveSameEnds
set_option maxRecDepth 20000 in
theorem ggX6_roomFor_X6_carried : GoodIn wsX6_roomFor wsX6_carried := goodIn_r _ [23, 24, 25, 26, 27, 28, 29, 30, 31, 32, 33, 34, 35, 36, 37, 38, 39, 40, 41, 42, 43, 44, 45, 46, 47, 48, 49, 50, 51, 52, 53, 54] (by decide +kernel) (by decide +kernel)
set_option maxRecDepth 20000 in
theorem gX6_roomFor_X6_carried : GoodIn wsX6_roomFor (wsV RX6 192 RX6 yX6_carried wsX6_carried) := goodIn_app (goodIn_of _ (by decide +kernel)) ggX6_roomFor_X6_carried
theorem dX6_roomFor_0 : decode cX6_roomFor 0 = .ok (.iconst 0, 1) := by decide +kernel
theorem dX6_roomFor_1 : decode cX6_roomFor 1 = .ok (.istore 5, 2) := by decide +kernel
theorem dX6_roomFor_3 : decode cX6_roomFor 3 = .ok (.iload 5, 2) := by decide +kernel
theorem dX6_roomFor_5 : decode cX6_roomFor 5 = .ok (.aload_n 0, 1) := by decide +kernel
theorem dX6_roomFor_6 : decode cX6_roomFor 6 = .ok (.getfield 96, 3) := by decide +kernel
theorem dX6_roomFor_9 : decode cX6_roomFor 9 = .ok (.if_icmp .ge 66, 3) := by decide +kernel
theorem dX6_roomFor_12 : decode cX6_roomFor 12 = .ok (.aload_n 0, 1) := by decide +kernel
theorem dX6_roomFor_13 : decode cX6_roomFor 13 = .ok (.iload 5, 2) := by decide +kernel
theorem dX6_roomFor_15 : decode cX6_roomFor 15 = .ok (.invokevirtual 111, 3) := by decide +kernel
theorem dX6_roomFor_18 : decode cX6_roomFor 18 = .ok (.ifCond .eq 51, 3) := by decide +kernel
theorem dX6_roomFor_21 : decode cX6_roomFor 21 = .ok (.aload_n 0, 1) := by decide +kernel
theorem dX6_roomFor_22 : decode cX6_roomFor 22 = .ok (.iload 5, 2) := by decide +kernel
theorem dX6_roomFor_24 : decode cX6_roomFor 24 = .ok (.iload_n 1, 1) := by decide +kernel
theorem dX6_roomFor_25 : decode cX6_roomFor 25 = .ok (.iload_n 2, 1) := by decide +kernel
theorem dX6_roomFor_26 : decode cX6_roomFor 26 = .ok (.invokevirtual 189, 3) := by decide +kernel
theorem dX6_roomFor_29 : decode cX6_roomFor 29 = .ok (.ifCond .eq 40, 3) := by decide +kernel
theorem dX6_roomFor_32 : decode cX6_roomFor 32 = .ok (.aload_n 0, 1) := by decide +kernel
theorem dX6_roomFor_33 : decode cX6_roomFor 33 = .ok (.getfield 48, 3) := by decide +kernel
theorem dX6_roomFor_36 : decode cX6_roomFor 36 = .ok (.iload 5, 2) := by decide +kernel
theorem dX6_roomFor_38 : decode cX6_roomFor 38 = .ok (.iaload, 1) := by decide +kernel
theorem dX6_roomFor_39 : decode cX6_roomFor 39 = .ok (.iload 4, 2) := by decide +kernel
theorem dX6_roomFor_41 : decode cX6_roomFor 41 = .ok (.iconst 2, 1) := by decide +kernel
theorem dX6_roomFor_42 : decode cX6_roomFor 42 = .ok (.if_icmp .ne 7, 3) := by decide +kernel
theorem dX6_roomFor_45 : decode cX6_roomFor 45 = .ok (.iconst 2, 1) := by decide +kernel
theorem dX6_roomFor_46 : decode cX6_roomFor 46 = .ok (.goto 4, 3) := by decide +kernel
theorem dX6_roomFor_49 : decode cX6_roomFor 49 = .ok (.iconst 1, 1) := by decide +kernel
theorem dX6_roomFor_50 : decode cX6_roomFor 50 = .ok (.if_icmp .ne 19, 3) := by decide +kernel
theorem dX6_roomFor_53 : decode cX6_roomFor 53 = .ok (.aload_n 0, 1) := by decide +kernel
theorem dX6_roomFor_54 : decode cX6_roomFor 54 = .ok (.iload 5, 2) := by decide +kernel
theorem dX6_roomFor_56 : decode cX6_roomFor 56 = .ok (.invokevirtual 192, 3) := by decide +kernel
theorem dX6_roomFor_59 : decode cX6_roomFor 59 = .ok (.iload_n 3, 1) := by decide +kernel
theorem dX6_roomFor_60 : decode cX6_roomFor 60 = .ok (.iadd, 1) := by decide +kernel
theorem dX6_roomFor_61 : decode cX6_roomFor 61 = .ok (.bipush 10, 2) := by decide +kernel
theorem dX6_roomFor_63 : decode cX6_roomFor 63 = .ok (.if_icmp .gt 6, 3) := by decide +kernel
theorem dX6_roomFor_66 : decode cX6_roomFor 66 = .ok (.iload 5, 2) := by decide +kernel
theorem dX6_roomFor_68 : decode cX6_roomFor 68 = .ok (.ireturn, 1) := by decide +kernel
theorem dX6_roomFor_69 : decode cX6_roomFor 69 = .ok (.iinc 5 1, 3) := by decide +kernel
theorem dX6_roomFor_72 : decode cX6_roomFor 72 = .ok (.goto (-69), 3) := by decide +kernel
theorem dX6_roomFor_75 : decode cX6_roomFor 75 = .ok (.iconst (-1), 1) := by decide +kernel
theorem dX6_roomFor_76 : decode cX6_roomFor 76 = .ok (.ireturn, 1) := by decide +kernel
theorem dX6_numberOfLights_0 : decode cX6_numberOfLights 0 = .ok (.iconst 0, 1) := by decide +kernel
theorem dX6_numberOfLights_1 : decode cX6_numberOfLights 1 = .ok (.istore_n 1, 1) := by decide +kernel
theorem dX6_numberOfLights_2 : decode cX6_numberOfLights 2 = .ok (.iconst 0, 1) := by decide +kernel
theorem dX6_numberOfLights_3 : decode cX6_numberOfLights 3 = .ok (.istore_n 2, 1) := by decide +kernel
theorem dX6_numberOfLights_4 : decode cX6_numberOfLights 4 = .ok (.iload_n 2, 1) := by decide +kernel
theorem dX6_numberOfLights_5 : decode cX6_numberOfLights 5 = .ok (.aload_n 0, 1) := by decide +kernel
theorem dX6_numberOfLights_6 : decode cX6_numberOfLights 6 = .ok (.getfield 96, 3) := by decide +kernel
theorem dX6_numberOfLights_9 : decode cX6_numberOfLights 9 = .ok (.if_icmp .ge 26, 3) := by decide +kernel
theorem dX6_numberOfLights_12 : decode cX6_numberOfLights 12 = .ok (.iload_n 1, 1) := by decide +kernel
theorem dX6_numberOfLights_13 : decode cX6_numberOfLights 13 = .ok (.aload_n 0, 1) := by decide +kernel
theorem dX6_numberOfLights_14 : decode cX6_numberOfLights 14 = .ok (.getfield 48, 3) := by decide +kernel
theorem dX6_numberOfLights_17 : decode cX6_numberOfLights 17 = .ok (.iload_n 2, 1) := by decide +kernel
theorem dX6_numberOfLights_18 : decode cX6_numberOfLights 18 = .ok (.iaload, 1) := by decide +kernel
theorem dX6_numberOfLights_19 : decode cX6_numberOfLights 19 = .ok (.ifCond .le 7, 3) := by decide +kernel
theorem dX6_numberOfLights_22 : decode cX6_numberOfLights 22 = .ok (.iconst 1, 1) := by decide +kernel
theorem dX6_numberOfLights_23 : decode cX6_numberOfLights 23 = .ok (.goto 4, 3) := by decide +kernel
theorem dX6_numberOfLights_26 : decode cX6_numberOfLights 26 = .ok (.iconst 0, 1) := by decide +kernel
theorem dX6_numberOfLights_27 : decode cX6_numberOfLights 27 = .ok (.iadd, 1) := by decide +kernel
theorem dX6_numberOfLights_28 : decode cX6_numberOfLights 28 = .ok (.istore_n 1, 1) := by decide +kernel
theorem dX6_numberOfLights_29 : decode cX6_numberOfLights 29 = .ok (.iinc 2 1, 3) := by decide +kernel
theorem dX6_numberOfLights_32 : decode cX6_numberOfLights 32 = .ok (.goto (-28), 3) := by decide +kernel
theorem dX6_numberOfLights_35 : decode cX6_numberOfLights 35 = .ok (.iload_n 1, 1) := by decide +kernel
theorem dX6_numberOfLights_36 : decode cX6_numberOfLights 36 = .ok (.ireturn, 1) := by decide +kernel
set_option maxRecDepth 20000 in
theorem ggX6_makes_X6_gets : GoodIn wsX6_makes wsX6_gets := goodIn_r _ [11, 12, 13, 14, 15, 10, 16, 17, 18, 19, 20, 21, 22, 23, 24, 25, 26, 27, 28, 29, 30, 31, 32, 33, 34, 35, 36, 37, 38, 39, 40, 41, 42, 43, 44, 45, 46, 47, 48, 49, 50, 51, 52] (by decide +kernel) (by decide +kernel)
set_option maxRecDepth 20000 in
theorem gX6_makes_X6_gets : GoodIn wsX6_makes (wsV RX6 195 RX6 yX6_gets wsX6_gets) := goodIn_app (goodIn_of _ (by decide +kernel)) ggX6_makes_X6_gets
theorem dX6_makes_0 : decode cX6_makes 0 = .ok (.aload_n 0, 1) := by decide +kernel
theorem dX6_makes_1 : decode cX6_makes 1 = .ok (.getfield 42, 3) := by decide +kernel
theorem dX6_makes_4 : decode cX6_makes 4 = .ok (.aload_n 0, 1) := by decide +kernel
theorem dX6_makes_5 : decode cX6_makes 5 = .ok (.getfield 96, 3) := by decide +kernel
theorem dX6_makes_8 : decode cX6_makes 8 = .ok (.iload_n 1, 1) := by decide +kernel
theorem dX6_makes_9 : decode cX6_makes 9 = .ok (.iastore, 1) := by decide +kernel
theorem dX6_makes_10 : decode cX6_makes 10 = .ok (.aload_n 0, 1) := by decide +kernel
theorem dX6_makes_11 : decode cX6_makes 11 = .ok (.getfield 45, 3) := by decide +kernel
theorem dX6_makes_14 : decode cX6_makes 14 = .ok (.aload_n 0, 1) := by decide +kernel
theorem dX6_makes_15 : decode cX6_makes 15 = .ok (.getfield 96, 3) := by decide +kernel
theorem dX6_makes_18 : decode cX6_makes 18 = .ok (.iload_n 2, 1) := by decide +kernel
theorem dX6_makes_19 : decode cX6_makes 19 = .ok (.iastore, 1) := by decide +kernel
theorem dX6_makes_20 : decode cX6_makes 20 = .ok (.aload_n 0, 1) := by decide +kernel
theorem dX6_makes_21 : decode cX6_makes 21 = .ok (.getfield 48, 3) := by decide +kernel
theorem dX6_makes_24 : decode cX6_makes 24 = .ok (.aload_n 0, 1) := by decide +kernel
theorem dX6_makes_25 : decode cX6_makes 25 = .ok (.getfield 96, 3) := by decide +kernel
theorem dX6_makes_28 : decode cX6_makes 28 = .ok (.iload_n 3, 1) := by decide +kernel
theorem dX6_makes_29 : decode cX6_makes 29 = .ok (.iconst 2, 1) := by decide +kernel
theorem dX6_makes_30 : decode cX6_makes 30 = .ok (.if_icmp .ne 7, 3) := by decide +kernel
theorem dX6_makes_33 : decode cX6_makes 33 = .ok (.iconst 2, 1) := by decide +kernel
theorem dX6_makes_34 : decode cX6_makes 34 = .ok (.goto 4, 3) := by decide +kernel
theorem dX6_makes_37 : decode cX6_makes 37 = .ok (.iconst 1, 1) := by decide +kernel
theorem dX6_makes_38 : decode cX6_makes 38 = .ok (.iastore, 1) := by decide +kernel
theorem dX6_makes_39 : decode cX6_makes 39 = .ok (.aload_n 0, 1) := by decide +kernel
theorem dX6_makes_40 : decode cX6_makes 40 = .ok (.aload_n 0, 1) := by decide +kernel
theorem dX6_makes_41 : decode cX6_makes 41 = .ok (.getfield 96, 3) := by decide +kernel
theorem dX6_makes_44 : decode cX6_makes 44 = .ok (.iconst 0, 1) := by decide +kernel
theorem dX6_makes_45 : decode cX6_makes 45 = .ok (.aload_n 0, 1) := by decide +kernel
theorem dX6_makes_46 : decode cX6_makes 46 = .ok (.getfield 66, 3) := by decide +kernel
theorem dX6_makes_49 : decode cX6_makes 49 = .ok (.invokevirtual 195, 3) := by decide +kernel
theorem dX6_makes_52 : decode cX6_makes 52 = .ok (.iload_n 3, 1) := by decide +kernel
theorem dX6_makes_53 : decode cX6_makes 53 = .ok (.iconst 2, 1) := by decide +kernel
theorem dX6_makes_54 : decode cX6_makes 54 = .ok (.if_icmp .ne 16, 3) := by decide +kernel
theorem dX6_makes_57 : decode cX6_makes 57 = .ok (.aload_n 0, 1) := by decide +kernel
theorem dX6_makes_58 : decode cX6_makes 58 = .ok (.aload_n 0, 1) := by decide +kernel
theorem dX6_makes_59 : decode cX6_makes 59 = .ok (.getfield 96, 3) := by decide +kernel
theorem dX6_makes_62 : decode cX6_makes 62 = .ok (.iconst 1, 1) := by decide +kernel
theorem dX6_makes_63 : decode cX6_makes 63 = .ok (.aload_n 0, 1) := by decide +kernel
theorem dX6_makes_64 : decode cX6_makes 64 = .ok (.getfield 69, 3) := by decide +kernel
theorem dX6_makes_67 : decode cX6_makes 67 = .ok (.invokevirtual 195, 3) := by decide +kernel
theorem dX6_makes_70 : decode cX6_makes 70 = .ok (.aload_n 0, 1) := by decide +kernel
theorem dX6_makes_71 : decode cX6_makes 71 = .ok (.dup, 1) := by decide +kernel
theorem dX6_makes_72 : decode cX6_makes 72 = .ok (.getfield 96, 3) := by decide +kernel
theorem dX6_makes_75 : decode cX6_makes 75 = .ok (.iconst 1, 1) := by decide +kernel
theorem dX6_makes_76 : decode cX6_makes 76 = .ok (.iadd, 1) := by decide +kernel
theorem dX6_makes_77 : decode cX6_makes 77 = .ok (.putfield 96, 3) := by decide +kernel
theorem dX6_makes_80 : decode cX6_makes 80 = .ok (.aload_n 0, 1) := by decide +kernel
theorem dX6_makes_81 : decode cX6_makes 81 = .ok (.getfield 96, 3) := by decide +kernel
theorem dX6_makes_84 : decode cX6_makes 84 = .ok (.iconst 1, 1) := by decide +kernel
theorem dX6_makes_85 : decode cX6_makes 85 = .ok (.isub, 1) := by decide +kernel
theorem dX6_makes_86 : decode cX6_makes 86 = .ok (.ireturn, 1) := by decide +kernel
set_option maxRecDepth 20000 in
theorem ggX6_request_X6_areTwo : GoodIn wsX6_request wsX6_areTwo := goodIn_r _ [8, 9, 10, 11, 7, 12, 134, 135, 136, 137, 138, 139, 140, 141, 142, 143, 144, 145, 146, 147, 148, 149, 150, 151, 152, 153, 154, 155, 156, 157, 158, 159, 160, 161] (by decide +kernel) (by decide +kernel)
set_option maxRecDepth 20000 in
theorem gX6_request_X6_areTwo : GoodIn wsX6_request (wsV RX6 107 RX6 yX6_areTwo wsX6_areTwo) := goodIn_app (goodIn_of _ (by decide +kernel)) ggX6_request_X6_areTwo
set_option maxRecDepth 20000 in
theorem ggX6_request_X6_in : GoodIn wsX6_request wsX6_in := goodIn_r _ [12] (by decide +kernel) (by decide +kernel)
set_option maxRecDepth 20000 in
theorem gX6_request_X6_in : GoodIn wsX6_request (va_wsS RX6 99 yX6_in wsX6_in) := goodIn_app (goodIn_of _ (by decide +kernel)) ggX6_request_X6_in
set_option maxRecDepth 20000 in
theorem ggX6_request_X6_roomFor : GoodIn wsX6_request wsX6_roomFor := goodIn_r _ [16, 17, 18, 19, 20, 21, 7, 22, 23, 24, 25, 26, 27, 28, 29, 30, 31, 32, 33, 34, 35, 36, 37, 38, 1, 2, 3, 134, 135, 136, 137, 138, 139, 140, 141, 142, 143, 144, 145, 146, 147, 148, 149, 150, 151, 152, 153, 154, 155, 156, 157, 158, 159, 160, 161] (by decide +kernel) (by decide +kernel)
set_option maxRecDepth 20000 in
theorem gX6_request_X6_roomFor : GoodIn wsX6_request (wsV RX6 199 RX6 yX6_roomFor wsX6_roomFor) := goodIn_app (goodIn_of _ (by decide +kernel)) ggX6_request_X6_roomFor
set_option maxRecDepth 20000 in
theorem ggX6_request_X6_numberOfLights : GoodIn wsX6_request wsX6_numberOfLights := goodIn_r _ [42, 17, 18, 134, 135, 136, 137, 138, 139, 140, 141, 142, 143, 144, 145, 146, 147, 148, 149, 150, 151, 152, 153, 154, 155, 156, 157, 158, 159, 160, 161] (by decide +kernel) (by decide +kernel)
set_option maxRecDepth 20000 in
theorem gX6_request_X6_numberOfLights : GoodIn wsX6_request (wsV RX6 203 RX6 yX6_numberOfLights wsX6_numberOfLights) := goodIn_app (goodIn_of _ (by decide +kernel)) ggX6_request_X6_numberOfLights
set_option maxRecDepth 20000 in
theorem ggX6_request_X6_findsBy : GoodIn wsX6_request wsX6_findsBy := goodIn_r _ [46, 47, 48, 49, 7, 50, 51, 52, 53, 54, 55, 56, 57, 58, 59, 60, 61, 62, 63, 64, 65, 66, 67, 68, 69, 70, 71, 72, 73, 74, 75, 76, 77, 78, 79, 23, 80, 81, 82, 83, 84, 85, 86, 87, 88, 89, 90, 91, 92, 93, 94, 95, 96, 97, 98, 99, 100, 101, 102, 103, 104, 105, 106, 107, 108, 109, 110, 111, 112, 113, 134, 135, 136, 137, 138, 139, 140, 141, 142, 143, 144, 145, 146, 147, 148, 149, 150, 151, 152, 153, 154, 155, 156, 157, 158, 159, 160, 161] (by decide +kernel) (by decide +kernel)
set_option maxRecDepth 20000 in
theorem gX6_request_X6_findsBy : GoodIn wsX6_request (wsV RX6 206 RX6 yX6_findsBy wsX6_findsBy) := goodIn_app (goodIn_of _ (by decide +kernel)) ggX6_request_X6_findsBy
set_option maxRecDepth 20000 in
theorem ggX6_request_X6_holds : GoodIn wsX6_request wsX6_holds := goodIn_r _ [117, 118, 134, 135, 136, 137, 138, 139, 140, 141, 142, 143, 144, 145, 146, 147, 148, 149, 150, 151, 152, 153, 154, 155, 156, 157, 158, 159, 160, 161] (by decide +kernel) (by decide +kernel)
set_option maxRecDepth 20000 in
theorem gX6_request_X6_holds : GoodIn wsX6_request (wsV RX6 103 RX6 yX6_holds wsX6_holds) := goodIn_app (goodIn_of _ (by decide +kernel)) ggX6_request_X6_holds
set_option maxRecDepth 20000 in
theorem ggX6_request_X6_makes : GoodIn wsX6_request wsX6_makes := goodIn_r _ [122, 33, 17, 34, 18, 51, 105, 123, 124, 125, 7, 126, 28, 127, 128, 129, 130, 79, 24, 25, 26, 27, 131, 132, 133, 134, 135, 136, 137, 138, 139, 140, 141, 142, 143, 144, 145, 146, 147, 148, 149, 150, 151, 152, 153, 154, 155, 156, 157, 158, 159, 160, 161] (by decide +kernel) (by decide +kernel)
set_option maxRecDepth 20000 in
theorem gX6_request_X6_makes : GoodIn wsX6_request (wsV RX6 209 RX6 yX6_makes wsX6_makes) := goodIn_app (goodIn_of _ (by decide +kernel)) ggX6_request_X6_makes
theorem dX6_request_0 : decode cX6_request 0 = .ok (.aload_n 0, 1) := by decide +kernel
theorem dX6_request_1 : decode cX6_request 1 = .ok (.iload_n 1, 1) := by decide +kernel
theorem dX6_request_2 : decode cX6_request 2 = .ok (.iload_n 2, 1) := by decide +kernel
theorem dX6_request_3 : decode cX6_request 3 = .ok (.invokevirtual 107, 3) := by decide +kernel
theorem dX6_request_6 : decode cX6_request 6 = .ok (.ifCond .eq 27, 3) := by decide +kernel
theorem dX6_request_9 : decode cX6_request 9 = .ok (.iload_n 3, 1) := by decide +kernel
theorem dX6_request_10 : decode cX6_request 10 = .ok (.iconst 1, 1) := by decide +kernel
theorem dX6_request_11 : decode cX6_request 11 = .ok (.bipush 10, 2) := by decide +kernel
theorem dX6_request_13 : decode cX6_request 13 = .ok (.invokestatic 99, 3) := by decide +kernel
theorem dX6_request_16 : decode cX6_request 16 = .ok (.ifCond .eq 17, 3) := by decide +kernel
theorem dX6_request_19 : decode cX6_request 19 = .ok (.iload 4, 2) := by decide +kernel
theorem dX6_request_21 : decode cX6_request 21 = .ok (.iconst 0, 1) := by decide +kernel
theorem dX6_request_22 : decode cX6_request 22 = .ok (.iconst 2, 1) := by decide +kernel
theorem dX6_request_23 : decode cX6_request 23 = .ok (.invokestatic 99, 3) := by decide +kernel
theorem dX6_request_26 : decode cX6_request 26 = .ok (.ifCond .eq 7, 3) := by decide +kernel
theorem dX6_request_29 : decode cX6_request 29 = .ok (.iconst 1, 1) := by decide +kernel
theorem dX6_request_30 : decode cX6_request 30 = .ok (.goto 4, 3) := by decide +kernel
theorem dX6_request_33 : decode cX6_request 33 = .ok (.iconst 0, 1) := by decide +kernel
theorem dX6_request_34 : decode cX6_request 34 = .ok (.istore 5, 2) := by decide +kernel
theorem dX6_request_36 : decode cX6_request 36 = .ok (.iload 5, 2) := by decide +kernel
theorem dX6_request_38 : decode cX6_request 38 = .ok (.ifCond .eq 15, 3) := by decide +kernel
theorem dX6_request_41 : decode cX6_request 41 = .ok (.aload_n 0, 1) := by decide +kernel
theorem dX6_request_42 : decode cX6_request 42 = .ok (.iload_n 1, 1) := by decide +kernel
theorem dX6_request_43 : decode cX6_request 43 = .ok (.iload_n 2, 1) := by decide +kernel
theorem dX6_request_44 : decode cX6_request 44 = .ok (.iload_n 3, 1) := by decide +kernel
theorem dX6_request_45 : decode cX6_request 45 = .ok (.iload 4, 2) := by decide +kernel
theorem dX6_request_47 : decode cX6_request 47 = .ok (.invokevirtual 199, 3) := by decide +kernel
theorem dX6_request_50 : decode cX6_request 50 = .ok (.goto 4, 3) := by decide +kernel
theorem dX6_request_53 : decode cX6_request 53 = .ok (.iconst (-1), 1) := by decide +kernel
theorem dX6_request_54 : decode cX6_request 54 = .ok (.istore 6, 2) := by decide +kernel
theorem dX6_request_56 : decode cX6_request 56 = .ok (.iload 5, 2) := by decide +kernel
theorem dX6_request_58 : decode cX6_request 58 = .ok (.ifCond .eq 41, 3) := by decide +kernel
theorem dX6_request_61 : decode cX6_request 61 = .ok (.iload 6, 2) := by decide +kernel
theorem dX6_request_63 : decode cX6_request 63 = .ok (.ifCond .ge 36, 3) := by decide +kernel
theorem dX6_request_66 : decode cX6_request 66 = .ok (.aload_n 0, 1) := by decide +kernel
theorem dX6_request_67 : decode cX6_request 67 = .ok (.invokevirtual 203, 3) := by decide +kernel
theorem dX6_request_70 : decode cX6_request 70 = .ok (.bipush 12, 2) := by decide +kernel
theorem dX6_request_72 : decode cX6_request 72 = .ok (.if_icmp .ge 27, 3) := by decide +kernel
theorem dX6_request_75 : decode cX6_request 75 = .ok (.aload_n 0, 1) := by decide +kernel
theorem dX6_request_76 : decode cX6_request 76 = .ok (.getfield 93, 3) := by decide +kernel
theorem dX6_request_79 : decode cX6_request 79 = .ok (.bipush 60, 2) := by decide +kernel
theorem dX6_request_81 : decode cX6_request 81 = .ok (.if_icmp .ge 18, 3) := by decide +kernel
theorem dX6_request_84 : decode cX6_request 84 = .ok (.aload_n 0, 1) := by decide +kernel
theorem dX6_request_85 : decode cX6_request 85 = .ok (.iload_n 1, 1) := by decide +kernel
theorem dX6_request_86 : decode cX6_request 86 = .ok (.iload_n 2, 1) := by decide +kernel
theorem dX6_request_87 : decode cX6_request 87 = .ok (.iload 4, 2) := by decide +kernel
theorem dX6_request_89 : decode cX6_request 89 = .ok (.invokevirtual 206, 3) := by decide +kernel
theorem dX6_request_92 : decode cX6_request 92 = .ok (.ifCond .eq 7, 3) := by decide +kernel
theorem dX6_request_95 : decode cX6_request 95 = .ok (.iconst 1, 1) := by decide +kernel
theorem dX6_request_96 : decode cX6_request 96 = .ok (.goto 4, 3) := by decide +kernel
theorem dX6_request_99 : decode cX6_request 99 = .ok (.iconst 0, 1) := by decide +kernel
theorem dX6_request_100 : decode cX6_request 100 = .ok (.istore 7, 2) := by decide +kernel
theorem dX6_request_102 : decode cX6_request 102 = .ok (.aload_n 0, 1) := by decide +kernel
theorem dX6_request_103 : decode cX6_request 103 = .ok (.iload 5, 2) := by decide +kernel
theorem dX6_request_105 : decode cX6_request 105 = .ok (.ifCond .ne 7, 3) := by decide +kernel
theorem dX6_request_108 : decode cX6_request 108 = .ok (.iconst 1, 1) := by decide +kernel
theorem dX6_request_109 : decode cX6_request 109 = .ok (.goto 27, 3) := by decide +kernel
theorem dX6_request_112 : decode cX6_request 112 = .ok (.aload_n 0, 1) := by decide +kernel
theorem dX6_request_113 : decode cX6_request 113 = .ok (.getfield 93, 3) := by decide +kernel
theorem dX6_request_116 : decode cX6_request 116 = .ok (.bipush 60, 2) := by decide +kernel
theorem dX6_request_118 : decode cX6_request 118 = .ok (.if_icmp .eq 13, 3) := by decide +kernel
theorem dX6_request_121 : decode cX6_request 121 = .ok (.iload 6, 2) := by decide +kernel
theorem dX6_request_123 : decode cX6_request 123 = .ok (.ifCond .ge 12, 3) := by decide +kernel
theorem dX6_request_126 : decode cX6_request 126 = .ok (.iload 7, 2) := by decide +kernel
theorem dX6_request_128 : decode cX6_request 128 = .ok (.ifCond .ne 7, 3) := by decide +kernel
theorem dX6_request_131 : decode cX6_request 131 = .ok (.iconst 2, 1) := by decide +kernel
theorem dX6_request_132 : decode cX6_request 132 = .ok (.goto 4, 3) := by decide +kernel
theorem dX6_request_135 : decode cX6_request 135 = .ok (.iconst 0, 1) := by decide +kernel
theorem dX6_request_136 : decode cX6_request 136 = .ok (.invokevirtual 103, 3) := by decide +kernel
theorem dX6_request_139 : decode cX6_request 139 = .ok (.ifCond .ne 5, 3) := by decide +kernel
theorem dX6_request_142 : decode cX6_request 142 = .ok (.iconst 0, 1) := by decide +kernel
theorem dX6_request_143 : decode cX6_request 143 = .ok (.ireturn, 1) := by decide +kernel
theorem dX6_request_144 : decode cX6_request 144 = .ok (.aload_n 0, 1) := by decide +kernel
theorem dX6_request_145 : decode cX6_request 145 = .ok (.getfield 36, 3) := by decide +kernel
theorem dX6_request_148 : decode cX6_request 148 = .ok (.aload_n 0, 1) := by decide +kernel
theorem dX6_request_149 : decode cX6_request 149 = .ok (.getfield 93, 3) := by decide +kernel
theorem dX6_request_152 : decode cX6_request 152 = .ok (.iload 7, 2) := by decide +kernel
theorem dX6_request_154 : decode cX6_request 154 = .ok (.ifCond .eq 14, 3) := by decide +kernel
theorem dX6_request_157 : decode cX6_request 157 = .ok (.aload_n 0, 1) := by decide +kernel
theorem dX6_request_158 : decode cX6_request 158 = .ok (.iload_n 1, 1) := by decide +kernel
theorem dX6_request_159 : decode cX6_request 159 = .ok (.iload_n 2, 1) := by decide +kernel
theorem dX6_request_160 : decode cX6_request 160 = .ok (.iload 4, 2) := by decide +kernel
theorem dX6_request_162 : decode cX6_request 162 = .ok (.invokevirtual 209, 3) := by decide +kernel
theorem dX6_request_165 : decode cX6_request 165 = .ok (.goto 5, 3) := by decide +kernel
theorem dX6_request_168 : decode cX6_request 168 = .ok (.iload 6, 2) := by decide +kernel
theorem dX6_request_170 : decode cX6_request 170 = .ok (.iastore, 1) := by decide +kernel
theorem dX6_request_171 : decode cX6_request 171 = .ok (.aload_n 0, 1) := by decide +kernel
theorem dX6_request_172 : decode cX6_request 172 = .ok (.getfield 39, 3) := by decide +kernel
theorem dX6_request_175 : decode cX6_request 175 = .ok (.aload_n 0, 1) := by decide +kernel
theorem dX6_request_176 : decode cX6_request 176 = .ok (.getfield 93, 3) := by decide +kernel
theorem dX6_request_179 : decode cX6_request 179 = .ok (.iload_n 3, 1) := by decide +kernel
theorem dX6_request_180 : decode cX6_request 180 = .ok (.iastore, 1) := by decide +kernel
theorem dX6_request_181 : decode cX6_request 181 = .ok (.aload_n 0, 1) := by decide +kernel
theorem dX6_request_182 : decode cX6_request 182 = .ok (.dup, 1) := by decide +kernel
theorem dX6_request_183 : decode cX6_request 183 = .ok (.getfield 93, 3) := by decide +kernel
theorem dX6_request_186 : decode cX6_request 186 = .ok (.iconst 1, 1) := by decide +kernel
theorem dX6_request_187 : decode cX6_request 187 = .ok (.iadd, 1) := by decide +kernel
theorem dX6_request_188 : decode cX6_request 188 = .ok (.putfield 93, 3) := by decide +kernel
theorem dX6_request_191 : decode cX6_request 191 = .ok (.aload_n 0, 1) := by decide +kernel
theorem dX6_request_192 : decode cX6_request 192 = .ok (.getfield 93, 3) := by decide +kernel
theorem dX6_request_195 : decode cX6_request 195 = .ok (.iconst 1, 1) := by decide +kernel
theorem dX6_request_196 : decode cX6_request 196 = .ok (.isub, 1) := by decide +kernel
theorem dX6_request_197 : decode cX6_request 197 = .ok (.ireturn, 1) := by decide +kernel
set_option maxRecDepth 20000 in
theorem ggX6_newLength_X6_areTwo : GoodIn wsX6_newLength wsX6_areTwo := goodIn_r _ [7, 8, 9, 10, 6, 11, 87, 88, 89, 90, 91, 92, 93, 94, 95, 96, 97, 98, 99, 100, 101, 102, 103, 104, 105, 106, 107, 108, 109, 110, 111, 112, 113, 114] (by decide +kernel) (by decide +kernel)
set_option maxRecDepth 20000 in
theorem gX6_newLength_X6_areTwo : GoodIn wsX6_newLength (wsV RX6 107 RX6 yX6_areTwo wsX6_areTwo) := goodIn_app (goodIn_of _ (by decide +kernel)) ggX6_newLength_X6_areTwo
set_option maxRecDepth 20000 in
theorem ggX6_newLength_X6_in : GoodIn wsX6_newLength wsX6_in := goodIn_r _ [11] (by decide +kernel) (by decide +kernel)
set_option maxRecDepth 20000 in
theorem gX6_newLength_X6_in : GoodIn wsX6_newLength (va_wsS RX6 99 yX6_in wsX6_in) := goodIn_app (goodIn_of _ (by decide +kernel)) ggX6_newLength_X6_in
set_option maxRecDepth 20000 in
theorem ggX6_newLength_X6_findsBy : GoodIn wsX6_newLength wsX6_findsBy := goodIn_r _ [15, 16, 17, 18, 6, 19, 1, 20, 21, 22, 23, 24, 25, 26, 27, 28, 29, 30, 31, 32, 33, 34, 35, 36, 37, 38, 39, 40, 41, 42, 43, 44, 45, 46, 47, 48, 49, 50, 51, 52, 53, 54, 55, 56, 57, 58, 59, 60, 61, 62, 63, 64, 65, 66, 67, 68, 69, 70, 71, 72, 73, 2, 74, 75, 76, 77, 78, 79, 80, 81, 87, 88, 89, 90, 91, 92, 93, 94, 95, 96, 97, 98, 99, 100, 101, 102, 103, 104, 105, 106, 107, 108, 109, 110, 111, 112, 113, 114] (by decide +kernel) (by decide +kernel)
set_option maxRecDepth 20000 in
theorem gX6_newLength_X6_findsBy : GoodIn wsX6_newLength (wsV RX6 206 RX6 yX6_findsBy wsX6_findsBy) := goodIn_app (goodIn_of _ (by decide +kernel)) ggX6_newLength_X6_findsBy
set_option maxRecDepth 20000 in
theorem ggX6_newLength_X6_holds : GoodIn wsX6_newLength wsX6_holds := goodIn_r _ [85, 86, 87, 88, 89, 90, 91, 92, 93, 94, 95, 96, 97, 98, 99, 100, 101, 102, 103, 104, 105, 106, 107, 108, 109, 110, 111, 112, 113, 114] (by decide +kernel) (by decide +kernel)
set_option maxRecDepth 20000 in
theorem gX6_newLength_X6_holds : GoodIn wsX6_newLength (wsV RX6 103 RX6 yX6_holds wsX6_holds) := goodIn_app (goodIn_of _ (by decide +kernel)) ggX6_newLength_X6_holds
theorem dX6_newLength_0 : decode cX6_newLength 0 = .ok (.aload_n 0, 1) := by decide +kernel
theorem dX6_newLength_1 : decode cX6_newLength 1 = .ok (.iload_n 1, 1) := by decide +kernel
theorem dX6_newLength_2 : decode cX6_newLength 2 = .ok (.iload_n 2, 1) := by decide +kernel
theorem dX6_newLength_3 : decode cX6_newLength 3 = .ok (.invokevirtual 107, 3) := by decide +kernel
theorem dX6_newLength_6 : decode cX6_newLength 6 = .ok (.ifCond .eq 16, 3) := by decide +kernel
theorem dX6_newLength_9 : decode cX6_newLength 9 = .ok (.iload_n 3, 1) := by decide +kernel
theorem dX6_newLength_10 : decode cX6_newLength 10 = .ok (.iconst 0, 1) := by decide +kernel
theorem dX6_newLength_11 : decode cX6_newLength 11 = .ok (.iconst 2, 1) := by decide +kernel
theorem dX6_newLength_12 : decode cX6_newLength 12 = .ok (.invokestatic 99, 3) := by decide +kernel
theorem dX6_newLength_15 : decode cX6_newLength 15 = .ok (.ifCond .eq 7, 3) := by decide +kernel
theorem dX6_newLength_18 : decode cX6_newLength 18 = .ok (.iconst 1, 1) := by decide +kernel
theorem dX6_newLength_19 : decode cX6_newLength 19 = .ok (.goto 4, 3) := by decide +kernel
theorem dX6_newLength_22 : decode cX6_newLength 22 = .ok (.iconst 0, 1) := by decide +kernel
theorem dX6_newLength_23 : decode cX6_newLength 23 = .ok (.istore 4, 2) := by decide +kernel
theorem dX6_newLength_25 : decode cX6_newLength 25 = .ok (.iload 4, 2) := by decide +kernel
theorem dX6_newLength_27 : decode cX6_newLength 27 = .ok (.ifCond .eq 17, 3) := by decide +kernel
theorem dX6_newLength_30 : decode cX6_newLength 30 = .ok (.aload_n 0, 1) := by decide +kernel
theorem dX6_newLength_31 : decode cX6_newLength 31 = .ok (.iload_n 1, 1) := by decide +kernel
theorem dX6_newLength_32 : decode cX6_newLength 32 = .ok (.iload_n 2, 1) := by decide +kernel
theorem dX6_newLength_33 : decode cX6_newLength 33 = .ok (.iload_n 3, 1) := by decide +kernel
theorem dX6_newLength_34 : decode cX6_newLength 34 = .ok (.invokevirtual 206, 3) := by decide +kernel
theorem dX6_newLength_37 : decode cX6_newLength 37 = .ok (.ifCond .eq 7, 3) := by decide +kernel
theorem dX6_newLength_40 : decode cX6_newLength 40 = .ok (.iconst 1, 1) := by decide +kernel
theorem dX6_newLength_41 : decode cX6_newLength 41 = .ok (.goto 4, 3) := by decide +kernel
theorem dX6_newLength_44 : decode cX6_newLength 44 = .ok (.iconst 0, 1) := by decide +kernel
theorem dX6_newLength_45 : decode cX6_newLength 45 = .ok (.istore 5, 2) := by decide +kernel
theorem dX6_newLength_47 : decode cX6_newLength 47 = .ok (.aload_n 0, 1) := by decide +kernel
theorem dX6_newLength_48 : decode cX6_newLength 48 = .ok (.iload 4, 2) := by decide +kernel
theorem dX6_newLength_50 : decode cX6_newLength 50 = .ok (.ifCond .ne 7, 3) := by decide +kernel
theorem dX6_newLength_53 : decode cX6_newLength 53 = .ok (.iconst 1, 1) := by decide +kernel
theorem dX6_newLength_54 : decode cX6_newLength 54 = .ok (.goto 13, 3) := by decide +kernel
theorem dX6_newLength_57 : decode cX6_newLength 57 = .ok (.iload 5, 2) := by decide +kernel
theorem dX6_newLength_59 : decode cX6_newLength 59 = .ok (.ifCond .eq 7, 3) := by decide +kernel
theorem dX6_newLength_62 : decode cX6_newLength 62 = .ok (.iconst 0, 1) := by decide +kernel
theorem dX6_newLength_63 : decode cX6_newLength 63 = .ok (.goto 4, 3) := by decide +kernel
theorem dX6_newLength_66 : decode cX6_newLength 66 = .ok (.iconst 2, 1) := by decide +kernel
theorem dX6_newLength_67 : decode cX6_newLength 67 = .ok (.invokevirtual 103, 3) := by decide +kernel
theorem dX6_newLength_70 : decode cX6_newLength 70 = .ok (.ifCond .eq 30, 3) := by decide +kernel
theorem dX6_newLength_73 : decode cX6_newLength 73 = .ok (.aload_n 0, 1) := by decide +kernel
theorem dX6_newLength_74 : decode cX6_newLength 74 = .ok (.getfield 66, 3) := by decide +kernel
theorem dX6_newLength_77 : decode cX6_newLength 77 = .ok (.bipush 8, 2) := by decide +kernel
theorem dX6_newLength_79 : decode cX6_newLength 79 = .ok (.iaload, 1) := by decide +kernel
theorem dX6_newLength_80 : decode cX6_newLength 80 = .ok (.iload_n 3, 1) := by decide +kernel
theorem dX6_newLength_81 : decode cX6_newLength 81 = .ok (.iconst 2, 1) := by decide +kernel
theorem dX6_newLength_82 : decode cX6_newLength 82 = .ok (.if_icmp .ne 13, 3) := by decide +kernel
theorem dX6_newLength_85 : decode cX6_newLength 85 = .ok (.aload_n 0, 1) := by decide +kernel
theorem dX6_newLength_86 : decode cX6_newLength 86 = .ok (.getfield 69, 3) := by decide +kernel
theorem dX6_newLength_89 : decode cX6_newLength 89 = .ok (.bipush 8, 2) := by decide +kernel
theorem dX6_newLength_91 : decode cX6_newLength 91 = .ok (.iaload, 1) := by decide +kernel
theorem dX6_newLength_92 : decode cX6_newLength 92 = .ok (.goto 4, 3) := by decide +kernel
theorem dX6_newLength_95 : decode cX6_newLength 95 = .ok (.iconst 0, 1) := by decide +kernel
theorem dX6_newLength_96 : decode cX6_newLength 96 = .ok (.iadd, 1) := by decide +kernel
theorem dX6_newLength_97 : decode cX6_newLength 97 = .ok (.goto 4, 3) := by decide +kernel
theorem dX6_newLength_100 : decode cX6_newLength 100 = .ok (.iconst 0, 1) := by decide +kernel
theorem dX6_newLength_101 : decode cX6_newLength 101 = .ok (.ireturn, 1) := by decide +kernel
set_option maxRecDepth 20000 in
theorem ggX6_errorOfRequest_X6_in : GoodIn wsX6_errorOfRequest wsX6_in := goodIn_r _ [6] (by decide +kernel) (by decide +kernel)
set_option maxRecDepth 20000 in
theorem gX6_errorOfRequest_X6_in : GoodIn wsX6_errorOfRequest (va_wsS RX6 99 yX6_in wsX6_in) := goodIn_app (goodIn_of _ (by decide +kernel)) ggX6_errorOfRequest_X6_in
theorem dX6_errorOfRequest_0 : decode cX6_errorOfRequest 0 = .ok (.iload_n 1, 1) := by decide +kernel
theorem dX6_errorOfRequest_1 : decode cX6_errorOfRequest 1 = .ok (.iconst 0, 1) := by decide +kernel
theorem dX6_errorOfRequest_2 : decode cX6_errorOfRequest 2 = .ok (.aload_n 0, 1) := by decide +kernel
theorem dX6_errorOfRequest_3 : decode cX6_errorOfRequest 3 = .ok (.getfield 93, 3) := by decide +kernel
theorem dX6_errorOfRequest_6 : decode cX6_errorOfRequest 6 = .ok (.iconst 1, 1) := by decide +kernel
theorem dX6_errorOfRequest_7 : decode cX6_errorOfRequest 7 = .ok (.isub, 1) := by decide +kernel
theorem dX6_errorOfRequest_8 : decode cX6_errorOfRequest 8 = .ok (.invokestatic 99, 3) := by decide +kernel
theorem dX6_errorOfRequest_11 : decode cX6_errorOfRequest 11 = .ok (.ifCond .ne 7, 3) := by decide +kernel
theorem dX6_errorOfRequest_14 : decode cX6_errorOfRequest 14 = .ok (.iconst 1, 1) := by decide +kernel
theorem dX6_errorOfRequest_15 : decode cX6_errorOfRequest 15 = .ok (.goto 17, 3) := by decide +kernel
theorem dX6_errorOfRequest_18 : decode cX6_errorOfRequest 18 = .ok (.aload_n 0, 1) := by decide +kernel
theorem dX6_errorOfRequest_19 : decode cX6_errorOfRequest 19 = .ok (.getfield 39, 3) := by decide +kernel
theorem dX6_errorOfRequest_22 : decode cX6_errorOfRequest 22 = .ok (.iload_n 1, 1) := by decide +kernel
theorem dX6_errorOfRequest_23 : decode cX6_errorOfRequest 23 = .ok (.iaload, 1) := by decide +kernel
theorem dX6_errorOfRequest_24 : decode cX6_errorOfRequest 24 = .ok (.ifCond .ne 7, 3) := by decide +kernel
theorem dX6_errorOfRequest_27 : decode cX6_errorOfRequest 27 = .ok (.iconst 2, 1) := by decide +kernel
theorem dX6_errorOfRequest_28 : decode cX6_errorOfRequest 28 = .ok (.goto 4, 3) := by decide +kernel
theorem dX6_errorOfRequest_31 : decode cX6_errorOfRequest 31 = .ok (.iconst 0, 1) := by decide +kernel
theorem dX6_errorOfRequest_32 : decode cX6_errorOfRequest 32 = .ok (.ireturn, 1) := by decide +kernel
set_option maxRecDepth 20000 in
theorem ggX6_release_X6_errorOfRequest : GoodIn wsX6_release wsX6_errorOfRequest := goodIn_r _ [7, 8, 2, 9, 10, 6, 11, 39, 40, 41, 42, 43, 44, 45, 46, 47, 48, 49, 50, 51, 52, 53, 54, 55, 56, 57, 58, 59, 60, 61, 62, 63, 64, 65, 66] (by decide +kernel) (by decide +kernel)
set_option maxRecDepth 20000 in
theorem gX6_release_X6_errorOfRequest : GoodIn wsX6_release (wsV RX6 212 RX6 yX6_errorOfRequest wsX6_errorOfRequest) := goodIn_app (goodIn_of _ (by decide +kernel)) ggX6_release_X6_errorOfRequest
set_option maxRecDepth 20000 in
theorem ggX6_release_X6_holds : GoodIn wsX6_release wsX6_holds := goodIn_r _ [15, 16, 39, 40, 41, 42, 43, 44, 45, 46, 47, 48, 49, 50, 51, 52, 53, 54, 55, 56, 57, 58, 59, 60, 61, 62, 63, 64, 65, 66] (by decide +kernel) (by decide +kernel)
set_option maxRecDepth 20000 in
theorem gX6_release_X6_holds : GoodIn wsX6_release (wsV RX6 103 RX6 yX6_holds wsX6_holds) := goodIn_app (goodIn_of _ (by decide +kernel)) ggX6_release_X6_holds
set_option maxRecDepth 20000 in
theorem ggX6_release_X6_carried : GoodIn wsX6_release wsX6_carried := goodIn_r _ [20, 8, 1, 2, 39, 40, 41, 42, 43, 44, 45, 46, 47, 48, 49, 50, 51, 52, 53, 54, 55, 56, 57, 58, 59, 60, 61, 62, 63, 64, 65, 66] (by decide +kernel) (by decide +kernel)
set_option maxRecDepth 20000 in
theorem gX6_release_X6_carried : GoodIn wsX6_release (wsV RX6 192 RX6 yX6_carried wsX6_carried) := goodIn_app (goodIn_of _ (by decide +kernel)) ggX6_release_X6_carried
set_option maxRecDepth 20000 in
theorem ggX6_release_X6_ends : GoodIn wsX6_release wsX6_ends := goodIn_r _ [24, 25, 26, 27, 28, 6, 29, 30, 31, 32, 33, 34, 35, 36, 37, 38, 39, 40, 41, 42, 43, 44, 45, 46, 47, 48, 49, 50, 51, 52, 53, 54, 55, 56, 57, 58, 59, 60, 61, 62, 63, 64, 65, 66] (by decide +kernel) (by decide +kernel)
set_option maxRecDepth 20000 in
theorem gX6_release_X6_ends : GoodIn wsX6_release (wsV RX6 215 RX6 yX6_ends wsX6_ends) := goodIn_app (goodIn_of _ (by decide +kernel)) ggX6_release_X6_ends
theorem dX6_release_0 : decode cX6_release 0 = .ok (.aload_n 0, 1) := by decide +kernel
theorem dX6_release_1 : decode cX6_release 1 = .ok (.aload_n 0, 1) := by decide +kernel
theorem dX6_release_2 : decode cX6_release 2 = .ok (.iload_n 1, 1) := by decide +kernel
theorem dX6_release_3 : decode cX6_release 3 = .ok (.invokevirtual 212, 3) := by decide +kernel
theorem dX6_release_6 : decode cX6_release 6 = .ok (.invokevirtual 103, 3) := by decide +kernel
theorem dX6_release_9 : decode cX6_release 9 = .ok (.ifCond .ne 5, 3) := by decide +kernel
theorem dX6_release_12 : decode cX6_release 12 = .ok (.iconst 0, 1) := by decide +kernel
theorem dX6_release_13 : decode cX6_release 13 = .ok (.ireturn, 1) := by decide +kernel
theorem dX6_release_14 : decode cX6_release 14 = .ok (.aload_n 0, 1) := by decide +kernel
theorem dX6_release_15 : decode cX6_release 15 = .ok (.getfield 36, 3) := by decide +kernel
theorem dX6_release_18 : decode cX6_release 18 = .ok (.iload_n 1, 1) := by decide +kernel
theorem dX6_release_19 : decode cX6_release 19 = .ok (.iaload, 1) := by decide +kernel
theorem dX6_release_20 : decode cX6_release 20 = .ok (.istore_n 2, 1) := by decide +kernel
theorem dX6_release_21 : decode cX6_release 21 = .ok (.aload_n 0, 1) := by decide +kernel
theorem dX6_release_22 : decode cX6_release 22 = .ok (.getfield 39, 3) := by decide +kernel
theorem dX6_release_25 : decode cX6_release 25 = .ok (.iload_n 1, 1) := by decide +kernel
theorem dX6_release_26 : decode cX6_release 26 = .ok (.iconst 0, 1) := by decide +kernel
theorem dX6_release_27 : decode cX6_release 27 = .ok (.iastore, 1) := by decide +kernel
theorem dX6_release_28 : decode cX6_release 28 = .ok (.aload_n 0, 1) := by decide +kernel
theorem dX6_release_29 : decode cX6_release 29 = .ok (.iload_n 2, 1) := by decide +kernel
theorem dX6_release_30 : decode cX6_release 30 = .ok (.invokevirtual 192, 3) := by decide +kernel
theorem dX6_release_33 : decode cX6_release 33 = .ok (.istore_n 3, 1) := by decide +kernel
theorem dX6_release_34 : decode cX6_release 34 = .ok (.iload_n 3, 1) := by decide +kernel
theorem dX6_release_35 : decode cX6_release 35 = .ok (.ifCond .ne 8, 3) := by decide +kernel
theorem dX6_release_38 : decode cX6_release 38 = .ok (.aload_n 0, 1) := by decide +kernel
theorem dX6_release_39 : decode cX6_release 39 = .ok (.iload_n 2, 1) := by decide +kernel
theorem dX6_release_40 : decode cX6_release 40 = .ok (.invokevirtual 215, 3) := by decide +kernel
theorem dX6_release_43 : decode cX6_release 43 = .ok (.iload_n 3, 1) := by decide +kernel
theorem dX6_release_44 : decode cX6_release 44 = .ok (.ireturn, 1) := by decide +kernel
set_option maxRecDepth 20000 in
theorem ggX6_lightOf_X6_errorOfRequest : GoodIn wsX6_lightOf wsX6_errorOfRequest := goodIn_r _ [6, 7, 8, 9, 10, 5, 11, 17, 18, 19, 20, 21, 22, 23, 24, 25, 26, 27, 28, 29, 30, 31, 32, 33, 34, 35, 36, 37, 38, 39, 40, 41, 42, 43, 44] (by decide +kernel) (by decide +kernel)
set_option maxRecDepth 20000 in
theorem gX6_lightOf_X6_errorOfRequest : GoodIn wsX6_lightOf (wsV RX6 212 RX6 yX6_errorOfRequest wsX6_errorOfRequest) := goodIn_app (goodIn_of _ (by decide +kernel)) ggX6_lightOf_X6_errorOfRequest
set_option maxRecDepth 20000 in
theorem ggX6_lightOf_X6_holds : GoodIn wsX6_lightOf wsX6_holds := goodIn_r _ [15, 16, 17, 18, 19, 20, 21, 22, 23, 24, 25, 26, 27, 28, 29, 30, 31, 32, 33, 34, 35, 36, 37, 38, 39, 40, 41, 42, 43, 44] (by decide +kernel) (by decide +kernel)
set_option maxRecDepth 20000 in
theorem gX6_lightOf_X6_holds : GoodIn wsX6_lightOf (wsV RX6 103 RX6 yX6_holds wsX6_holds) := goodIn_app (goodIn_of _ (by decide +kernel)) ggX6_lightOf_X6_holds
theorem dX6_lightOf_0 : decode cX6_lightOf 0 = .ok (.aload_n 0, 1) := by decide +kernel
theorem dX6_lightOf_1 : decode cX6_lightOf 1 = .ok (.aload_n 0, 1) := by decide +kernel
theorem dX6_lightOf_2 : decode cX6_lightOf 2 = .ok (.iload_n 1, 1) := by decide +kernel
theorem dX6_lightOf_3 : decode cX6_lightOf 3 = .ok (.invokevirtual 212, 3) := by decide +kernel
theorem dX6_lightOf_6 : decode cX6_lightOf 6 = .ok (.invokevirtual 103, 3) := by decide +kernel
theorem dX6_lightOf_9 : decode cX6_lightOf 9 = .ok (.ifCond .eq 12, 3) := by decide +kernel
theorem dX6_lightOf_12 : decode cX6_lightOf 12 = .ok (.aload_n 0, 1) := by decide +kernel
theorem dX6_lightOf_13 : decode cX6_lightOf 13 = .ok (.getfield 36, 3) := by decide +kernel
theorem dX6_lightOf_16 : decode cX6_lightOf 16 = .ok (.iload_n 1, 1) := by decide +kernel
theorem dX6_lightOf_17 : decode cX6_lightOf 17 = .ok (.iaload, 1) := by decide +kernel
theorem dX6_lightOf_18 : decode cX6_lightOf 18 = .ok (.goto 4, 3) := by decide +kernel
theorem dX6_lightOf_21 : decode cX6_lightOf 21 = .ok (.iconst 0, 1) := by decide +kernel
theorem dX6_lightOf_22 : decode cX6_lightOf 22 = .ok (.ireturn, 1) := by decide +kernel
theorem dX6_requests_0 : decode cX6_requests 0 = .ok (.aload_n 0, 1) := by decide +kernel
theorem dX6_requests_1 : decode cX6_requests 1 = .ok (.iconst 0, 1) := by decide +kernel
theorem dX6_requests_2 : decode cX6_requests 2 = .ok (.putfield 87, 3) := by decide +kernel
theorem dX6_requests_5 : decode cX6_requests 5 = .ok (.aload_n 0, 1) := by decide +kernel
theorem dX6_requests_6 : decode cX6_requests 6 = .ok (.getfield 93, 3) := by decide +kernel
theorem dX6_requests_9 : decode cX6_requests 9 = .ok (.ireturn, 1) := by decide +kernel
theorem dX6_lights_0 : decode cX6_lights 0 = .ok (.aload_n 0, 1) := by decide +kernel
theorem dX6_lights_1 : decode cX6_lights 1 = .ok (.iconst 0, 1) := by decide +kernel
theorem dX6_lights_2 : decode cX6_lights 2 = .ok (.putfield 87, 3) := by decide +kernel
theorem dX6_lights_5 : decode cX6_lights 5 = .ok (.aload_n 0, 1) := by decide +kernel
theorem dX6_lights_6 : decode cX6_lights 6 = .ok (.getfield 96, 3) := by decide +kernel
theorem dX6_lights_9 : decode cX6_lights 9 = .ok (.ireturn, 1) := by decide +kernel
set_option maxRecDepth 20000 in
theorem ggX6_state_X6_isLight : GoodIn wsX6_state wsX6_isLight := goodIn_r _ [6, 7, 8, 9, 5, 10, 26, 27, 28, 29, 30, 31, 32, 33, 34, 35, 36, 37, 38, 39, 40, 41, 42, 43, 44, 45, 46, 47, 48, 49, 50, 51, 52, 53] (by decide +kernel) (by decide +kernel)
set_option maxRecDepth 20000 in
theorem gX6_state_X6_isLight : GoodIn wsX6_state (wsV RX6 218 RX6 yX6_isLight wsX6_isLight) := goodIn_app (goodIn_of _ (by decide +kernel)) ggX6_state_X6_isLight
set_option maxRecDepth 20000 in
theorem ggX6_state_X6_holds : GoodIn wsX6_state wsX6_holds := goodIn_r _ [14, 15, 26, 27, 28, 29, 30, 31, 32, 33, 34, 35, 36, 37, 38, 39, 40, 41, 42, 43, 44, 45, 46, 47, 48, 49, 50, 51, 52, 53] (by decide +kernel) (by decide +kernel)
set_option maxRecDepth 20000 in
theorem gX6_state_X6_holds : GoodIn wsX6_state (wsV RX6 103 RX6 yX6_holds wsX6_holds) := goodIn_app (goodIn_of _ (by decide +kernel)) ggX6_state_X6_holds
set_option maxRecDepth 20000 in
theorem ggX6_state_X6_isUp : GoodIn wsX6_state wsX6_isUp := goodIn_r _ [19, 1, 20, 21, 22, 23, 5, 24, 25, 26, 27, 28, 29, 30, 31, 32, 33, 34, 35, 36, 37, 38, 39, 40, 41, 42, 43, 44, 45, 46, 47, 48, 49, 50, 51, 52, 53] (by decide +kernel) (by decide +kernel)
set_option maxRecDepth 20000 in
theorem gX6_state_X6_isUp : GoodIn wsX6_state (wsV RX6 111 RX6 yX6_isUp wsX6_isUp) := goodIn_app (goodIn_of _ (by decide +kernel)) ggX6_state_X6_isUp
theorem dX6_state_0 : decode cX6_state 0 = .ok (.aload_n 0, 1) := by decide +kernel
theorem dX6_state_1 : decode cX6_state 1 = .ok (.aload_n 0, 1) := by decide +kernel
theorem dX6_state_2 : decode cX6_state 2 = .ok (.iload_n 1, 1) := by decide +kernel
theorem dX6_state_3 : decode cX6_state 3 = .ok (.invokevirtual 218, 3) := by decide +kernel
theorem dX6_state_6 : decode cX6_state 6 = .ok (.ifCond .eq 7, 3) := by decide +kernel
theorem dX6_state_9 : decode cX6_state 9 = .ok (.iconst 0, 1) := by decide +kernel
theorem dX6_state_10 : decode cX6_state 10 = .ok (.goto 4, 3) := by decide +kernel
theorem dX6_state_13 : decode cX6_state 13 = .ok (.iconst 1, 1) := by decide +kernel
theorem dX6_state_14 : decode cX6_state 14 = .ok (.invokevirtual 103, 3) := by decide +kernel
theorem dX6_state_17 : decode cX6_state 17 = .ok (.ifCond .ne 7, 3) := by decide +kernel
theorem dX6_state_20 : decode cX6_state 20 = .ok (.iconst 0, 1) := by decide +kernel
theorem dX6_state_21 : decode cX6_state 21 = .ok (.goto 29, 3) := by decide +kernel
theorem dX6_state_24 : decode cX6_state 24 = .ok (.aload_n 0, 1) := by decide +kernel
theorem dX6_state_25 : decode cX6_state 25 = .ok (.getfield 48, 3) := by decide +kernel
theorem dX6_state_28 : decode cX6_state 28 = .ok (.iload_n 1, 1) := by decide +kernel
theorem dX6_state_29 : decode cX6_state 29 = .ok (.iaload, 1) := by decide +kernel
theorem dX6_state_30 : decode cX6_state 30 = .ok (.ifCond .ne 7, 3) := by decide +kernel
theorem dX6_state_33 : decode cX6_state 33 = .ok (.iconst 2, 1) := by decide +kernel
theorem dX6_state_34 : decode cX6_state 34 = .ok (.goto 16, 3) := by decide +kernel
theorem dX6_state_37 : decode cX6_state 37 = .ok (.aload_n 0, 1) := by decide +kernel
theorem dX6_state_38 : decode cX6_state 38 = .ok (.iload_n 1, 1) := by decide +kernel
theorem dX6_state_39 : decode cX6_state 39 = .ok (.invokevirtual 111, 3) := by decide +kernel
theorem dX6_state_42 : decode cX6_state 42 = .ok (.ifCond .eq 7, 3) := by decide +kernel
theorem dX6_state_45 : decode cX6_state 45 = .ok (.iconst 0, 1) := by decide +kernel
theorem dX6_state_46 : decode cX6_state 46 = .ok (.goto 4, 3) := by decide +kernel
theorem dX6_state_49 : decode cX6_state 49 = .ok (.iconst 1, 1) := by decide +kernel
theorem dX6_state_50 : decode cX6_state 50 = .ok (.ireturn, 1) := by decide +kernel
set_option maxRecDepth 20000 in
theorem ggX6_units_X6_isLight : GoodIn wsX6_units wsX6_isLight := goodIn_r _ [5, 6, 7, 8, 4, 9, 22, 23, 24, 25, 26, 27, 28, 29, 30, 31, 32, 33, 34, 35, 36, 37, 38, 39, 40, 41, 42, 43, 44, 45, 46, 47, 48, 49] (by decide +kernel) (by decide +kernel)
set_option maxRecDepth 20000 in
theorem gX6_units_X6_isLight : GoodIn wsX6_units (wsV RX6 218 RX6 yX6_isLight wsX6_isLight) := goodIn_app (goodIn_of _ (by decide +kernel)) ggX6_units_X6_isLight
set_option maxRecDepth 20000 in
theorem ggX6_units_X6_holds : GoodIn wsX6_units wsX6_holds := goodIn_r _ [13, 14, 22, 23, 24, 25, 26, 27, 28, 29, 30, 31, 32, 33, 34, 35, 36, 37, 38, 39, 40, 41, 42, 43, 44, 45, 46, 47, 48, 49] (by decide +kernel) (by decide +kernel)
set_option maxRecDepth 20000 in
theorem gX6_units_X6_holds : GoodIn wsX6_units (wsV RX6 103 RX6 yX6_holds wsX6_holds) := goodIn_app (goodIn_of _ (by decide +kernel)) ggX6_units_X6_holds
set_option maxRecDepth 20000 in
theorem ggX6_units_X6_carried : GoodIn wsX6_units wsX6_carried := goodIn_r _ [18, 19, 20, 21, 22, 23, 24, 25, 26, 27, 28, 29, 30, 31, 32, 33, 34, 35, 36, 37, 38, 39, 40, 41, 42, 43, 44, 45, 46, 47, 48, 49] (by decide +kernel) (by decide +kernel)
set_option maxRecDepth 20000 in
theorem gX6_units_X6_carried : GoodIn wsX6_units (wsV RX6 192 RX6 yX6_carried wsX6_carried) := goodIn_app (goodIn_of _ (by decide +kernel)) ggX6_units_X6_carried
theorem dX6_units_0 : decode cX6_units 0 = .ok (.aload_n 0, 1) := by decide +kernel
theorem dX6_units_1 : decode cX6_units 1 = .ok (.aload_n 0, 1) := by decide +kernel
theorem dX6_units_2 : decode cX6_units 2 = .ok (.iload_n 1, 1) := by decide +kernel
theorem dX6_units_3 : decode cX6_units 3 = .ok (.invokevirtual 218, 3) := by decide +kernel
theorem dX6_units_6 : decode cX6_units 6 = .ok (.ifCond .eq 7, 3) := by decide +kernel
theorem dX6_units_9 : decode cX6_units 9 = .ok (.iconst 0, 1) := by decide +kernel
theorem dX6_units_10 : decode cX6_units 10 = .ok (.goto 4, 3) := by decide +kernel
theorem dX6_units_13 : decode cX6_units 13 = .ok (.iconst 1, 1) := by decide +kernel
theorem dX6_units_14 : decode cX6_units 14 = .ok (.invokevirtual 103, 3) := by decide +kernel
theorem dX6_units_17 : decode cX6_units 17 = .ok (.ifCond .eq 11, 3) := by decide +kernel
theorem dX6_units_20 : decode cX6_units 20 = .ok (.aload_n 0, 1) := by decide +kernel
theorem dX6_units_21 : decode cX6_units 21 = .ok (.iload_n 1, 1) := by decide +kernel
theorem dX6_units_22 : decode cX6_units 22 = .ok (.invokevirtual 192, 3) := by decide +kernel
theorem dX6_units_25 : decode cX6_units 25 = .ok (.goto 4, 3) := by decide +kernel
theorem dX6_units_28 : decode cX6_units 28 = .ok (.iconst 0, 1) := by decide +kernel
theorem dX6_units_29 : decode cX6_units 29 = .ok (.ireturn, 1) := by decide +kernel
set_option maxRecDepth 20000 in
theorem ggX6_isWay_X6_isLight : GoodIn wsX6_isWay wsX6_isLight := goodIn_r _ [6, 7, 8, 9, 5, 10, 11, 12, 13, 14, 15, 16, 17, 18, 19, 20, 21, 22, 23, 24, 25, 26, 27, 28, 29, 30, 31, 32, 33, 34, 35, 36, 37, 38] (by decide +kernel) (by decide +kernel)
set_option maxRecDepth 20000 in
theorem gX6_isWay_X6_isLight : GoodIn wsX6_isWay (wsV RX6 218 RX6 yX6_isLight wsX6_isLight) := goodIn_app (goodIn_of _ (by decide +kernel)) ggX6_isWay_X6_isLight
set_option maxRecDepth 20000 in
theorem ggX6_isWay_X6_in : GoodIn wsX6_isWay wsX6_in := goodIn_r _ [10] (by decide +kernel) (by decide +kernel)
set_option maxRecDepth 20000 in
theorem gX6_isWay_X6_in : GoodIn wsX6_isWay (va_wsS RX6 99 yX6_in wsX6_in) := goodIn_app (goodIn_of _ (by decide +kernel)) ggX6_isWay_X6_in
theorem dX6_isWay_0 : decode cX6_isWay 0 = .ok (.aload_n 0, 1) := by decide +kernel
theorem dX6_isWay_1 : decode cX6_isWay 1 = .ok (.iload_n 1, 1) := by decide +kernel
theorem dX6_isWay_2 : decode cX6_isWay 2 = .ok (.invokevirtual 218, 3) := by decide +kernel
theorem dX6_isWay_5 : decode cX6_isWay 5 = .ok (.ifCond .eq 23, 3) := by decide +kernel
theorem dX6_isWay_8 : decode cX6_isWay 8 = .ok (.iload_n 2, 1) := by decide +kernel
theorem dX6_isWay_9 : decode cX6_isWay 9 = .ok (.iconst 0, 1) := by decide +kernel
theorem dX6_isWay_10 : decode cX6_isWay 10 = .ok (.aload_n 0, 1) := by decide +kernel
theorem dX6_isWay_11 : decode cX6_isWay 11 = .ok (.getfield 48, 3) := by decide +kernel
theorem dX6_isWay_14 : decode cX6_isWay 14 = .ok (.iload_n 1, 1) := by decide +kernel
theorem dX6_isWay_15 : decode cX6_isWay 15 = .ok (.iaload, 1) := by decide +kernel
theorem dX6_isWay_16 : decode cX6_isWay 16 = .ok (.iconst 1, 1) := by decide +kernel
theorem dX6_isWay_17 : decode cX6_isWay 17 = .ok (.isub, 1) := by decide +kernel
theorem dX6_isWay_18 : decode cX6_isWay 18 = .ok (.invokestatic 99, 3) := by decide +kernel
theorem dX6_isWay_21 : decode cX6_isWay 21 = .ok (.ifCond .eq 7, 3) := by decide +kernel
theorem dX6_isWay_24 : decode cX6_isWay 24 = .ok (.iconst 1, 1) := by decide +kernel
theorem dX6_isWay_25 : decode cX6_isWay 25 = .ok (.goto 4, 3) := by decide +kernel
theorem dX6_isWay_28 : decode cX6_isWay 28 = .ok (.iconst 0, 1) := by decide +kernel
theorem dX6_isWay_29 : decode cX6_isWay 29 = .ok (.ireturn, 1) := by decide +kernel
set_option maxRecDepth 20000 in
theorem ggX6_channels_X6_isWay : GoodIn wsX6_channels wsX6_isWay := goodIn_r _ [5, 6, 7, 8, 9, 4, 10, 11, 12, 13, 14, 25, 26, 27, 28, 29, 30, 31, 32, 33, 34, 35, 36, 37, 38, 39, 40, 41, 42, 43, 44, 45, 46, 47, 48, 49, 50, 51, 52] (by decide +kernel) (by decide +kernel)
set_option maxRecDepth 20000 in
theorem gX6_channels_X6_isWay : GoodIn wsX6_channels (wsV RX6 221 RX6 yX6_isWay wsX6_isWay) := goodIn_app (goodIn_of _ (by decide +kernel)) ggX6_channels_X6_isWay
set_option maxRecDepth 20000 in
theorem ggX6_channels_X6_holds : GoodIn wsX6_channels wsX6_holds := goodIn_r _ [18, 19, 25, 26, 27, 28, 29, 30, 31, 32, 33, 34, 35, 36, 37, 38, 39, 40, 41, 42, 43, 44, 45, 46, 47, 48, 49, 50, 51, 52] (by decide +kernel) (by decide +kernel)
set_option maxRecDepth 20000 in
theorem gX6_channels_X6_holds : GoodIn wsX6_channels (wsV RX6 103 RX6 yX6_holds wsX6_holds) := goodIn_app (goodIn_of _ (by decide +kernel)) ggX6_channels_X6_holds
set_option maxRecDepth 20000 in
theorem ggX6_channels_X6_way : GoodIn wsX6_channels wsX6_way := goodIn_r _ [23, 24, 25, 26, 27, 28, 29, 30, 31, 32, 33, 34, 35, 36, 37, 38, 39, 40, 41, 42, 43, 44, 45, 46, 47, 48, 49, 50, 51, 52] (by decide +kernel) (by decide +kernel)
set_option maxRecDepth 20000 in
theorem gX6_channels_X6_way : GoodIn wsX6_channels (wsV RX6 178 RX6 yX6_way wsX6_way) := goodIn_app (goodIn_of _ (by decide +kernel)) ggX6_channels_X6_way
theorem dX6_channels_0 : decode cX6_channels 0 = .ok (.aload_n 0, 1) := by decide +kernel
theorem dX6_channels_1 : decode cX6_channels 1 = .ok (.aload_n 0, 1) := by decide +kernel
theorem dX6_channels_2 : decode cX6_channels 2 = .ok (.iload_n 1, 1) := by decide +kernel
theorem dX6_channels_3 : decode cX6_channels 3 = .ok (.iload_n 2, 1) := by decide +kernel
theorem dX6_channels_4 : decode cX6_channels 4 = .ok (.invokevirtual 221, 3) := by decide +kernel
theorem dX6_channels_7 : decode cX6_channels 7 = .ok (.ifCond .eq 7, 3) := by decide +kernel
theorem dX6_channels_10 : decode cX6_channels 10 = .ok (.iconst 0, 1) := by decide +kernel
theorem dX6_channels_11 : decode cX6_channels 11 = .ok (.goto 4, 3) := by decide +kernel
theorem dX6_channels_14 : decode cX6_channels 14 = .ok (.iconst 1, 1) := by decide +kernel
theorem dX6_channels_15 : decode cX6_channels 15 = .ok (.invokevirtual 103, 3) := by decide +kernel
theorem dX6_channels_18 : decode cX6_channels 18 = .ok (.ifCond .eq 14, 3) := by decide +kernel
theorem dX6_channels_21 : decode cX6_channels 21 = .ok (.aload_n 0, 1) := by decide +kernel
theorem dX6_channels_22 : decode cX6_channels 22 = .ok (.iload_n 1, 1) := by decide +kernel
theorem dX6_channels_23 : decode cX6_channels 23 = .ok (.iload_n 2, 1) := by decide +kernel
theorem dX6_channels_24 : decode cX6_channels 24 = .ok (.bipush 7, 2) := by decide +kernel
theorem dX6_channels_26 : decode cX6_channels 26 = .ok (.invokevirtual 178, 3) := by decide +kernel
theorem dX6_channels_29 : decode cX6_channels 29 = .ok (.goto 4, 3) := by decide +kernel
theorem dX6_channels_32 : decode cX6_channels 32 = .ok (.iconst 0, 1) := by decide +kernel
theorem dX6_channels_33 : decode cX6_channels 33 = .ok (.ireturn, 1) := by decide +kernel
set_option maxRecDepth 20000 in
theorem ggX6_channel_X6_isWay : GoodIn wsX6_channel wsX6_isWay := goodIn_r _ [5, 6, 7, 8, 9, 4, 10, 11, 12, 13, 14, 25, 26, 27, 28, 29, 30, 31, 32, 33, 34, 35, 36, 37, 38, 39, 40, 41, 42, 43, 44, 45, 46, 47, 48, 49, 50, 51, 52] (by decide +kernel) (by decide +kernel)
set_option maxRecDepth 20000 in
theorem gX6_channel_X6_isWay : GoodIn wsX6_channel (wsV RX6 221 RX6 yX6_isWay wsX6_isWay) := goodIn_app (goodIn_of _ (by decide +kernel)) ggX6_channel_X6_isWay
set_option maxRecDepth 20000 in
theorem ggX6_channel_X6_way : GoodIn wsX6_channel wsX6_way := goodIn_r _ [18, 19, 25, 26, 27, 28, 29, 30, 31, 32, 33, 34, 35, 36, 37, 38, 39, 40, 41, 42, 43, 44, 45, 46, 47, 48, 49, 50, 51, 52] (by decide +kernel) (by decide +kernel)
set_option maxRecDepth 20000 in
theorem gX6_channel_X6_way : GoodIn wsX6_channel (wsV RX6 178 RX6 yX6_way wsX6_way) := goodIn_app (goodIn_of _ (by decide +kernel)) ggX6_channel_X6_way
set_option maxRecDepth 20000 in
theorem ggX6_channel_X6_in : GoodIn wsX6_channel wsX6_in := goodIn_r _ [14] (by decide +kernel) (by decide +kernel)
set_option maxRecDepth 20000 in
theorem gX6_channel_X6_in : GoodIn wsX6_channel (va_wsS RX6 99 yX6_in wsX6_in) := goodIn_app (goodIn_of _ (by decide +kernel)) ggX6_channel_X6_in
set_option maxRecDepth 20000 in
theorem ggX6_channel_X6_holds : GoodIn wsX6_channel wsX6_holds := goodIn_r _ [23, 24, 25, 26, 27, 28, 29, 30, 31, 32, 33, 34, 35, 36, 37, 38, 39, 40, 41, 42, 43, 44, 45, 46, 47, 48, 49, 50, 51, 52] (by decide +kernel) (by decide +kernel)
set_option maxRecDepth 20000 in
theorem gX6_channel_X6_holds : GoodIn wsX6_channel (wsV RX6 103 RX6 yX6_holds wsX6_holds) := goodIn_app (goodIn_of _ (by decide +kernel)) ggX6_channel_X6_holds
theorem dX6_channel_0 : decode cX6_channel 0 = .ok (.aload_n 0, 1) := by decide +kernel
theorem dX6_channel_1 : decode cX6_channel 1 = .ok (.aload_n 0, 1) := by decide +kernel
theorem dX6_channel_2 : decode cX6_channel 2 = .ok (.iload_n 1, 1) := by decide +kernel
theorem dX6_channel_3 : decode cX6_channel 3 = .ok (.iload_n 2, 1) := by decide +kernel
theorem dX6_channel_4 : decode cX6_channel 4 = .ok (.invokevirtual 221, 3) := by decide +kernel
theorem dX6_channel_7 : decode cX6_channel 7 = .ok (.ifCond .eq 25, 3) := by decide +kernel
theorem dX6_channel_10 : decode cX6_channel 10 = .ok (.iload_n 3, 1) := by decide +kernel
theorem dX6_channel_11 : decode cX6_channel 11 = .ok (.iconst 0, 1) := by decide +kernel
theorem dX6_channel_12 : decode cX6_channel 12 = .ok (.aload_n 0, 1) := by decide +kernel
theorem dX6_channel_13 : decode cX6_channel 13 = .ok (.iload_n 1, 1) := by decide +kernel
theorem dX6_channel_14 : decode cX6_channel 14 = .ok (.iload_n 2, 1) := by decide +kernel
theorem dX6_channel_15 : decode cX6_channel 15 = .ok (.bipush 7, 2) := by decide +kernel
theorem dX6_channel_17 : decode cX6_channel 17 = .ok (.invokevirtual 178, 3) := by decide +kernel
theorem dX6_channel_20 : decode cX6_channel 20 = .ok (.iconst 1, 1) := by decide +kernel
theorem dX6_channel_21 : decode cX6_channel 21 = .ok (.isub, 1) := by decide +kernel
theorem dX6_channel_22 : decode cX6_channel 22 = .ok (.invokestatic 99, 3) := by decide +kernel
theorem dX6_channel_25 : decode cX6_channel 25 = .ok (.ifCond .eq 7, 3) := by decide +kernel
theorem dX6_channel_28 : decode cX6_channel 28 = .ok (.iconst 0, 1) := by decide +kernel
theorem dX6_channel_29 : decode cX6_channel 29 = .ok (.goto 4, 3) := by decide +kernel
theorem dX6_channel_32 : decode cX6_channel 32 = .ok (.iconst 1, 1) := by decide +kernel
theorem dX6_channel_33 : decode cX6_channel 33 = .ok (.invokevirtual 103, 3) := by decide +kernel
theorem dX6_channel_36 : decode cX6_channel 36 = .ok (.ifCond .eq 13, 3) := by decide +kernel
theorem dX6_channel_39 : decode cX6_channel 39 = .ok (.aload_n 0, 1) := by decide +kernel
theorem dX6_channel_40 : decode cX6_channel 40 = .ok (.iload_n 1, 1) := by decide +kernel
theorem dX6_channel_41 : decode cX6_channel 41 = .ok (.iload_n 2, 1) := by decide +kernel
theorem dX6_channel_42 : decode cX6_channel 42 = .ok (.iload_n 3, 1) := by decide +kernel
theorem dX6_channel_43 : decode cX6_channel 43 = .ok (.invokevirtual 178, 3) := by decide +kernel
theorem dX6_channel_46 : decode cX6_channel 46 = .ok (.goto 4, 3) := by decide +kernel
theorem dX6_channel_49 : decode cX6_channel 49 = .ok (.iconst 0, 1) := by decide +kernel
theorem dX6_channel_50 : decode cX6_channel 50 = .ok (.ireturn, 1) := by decide +kernel
set_option maxRecDepth 20000 in
theorem ggX6_reroute_X6_isLight : GoodIn wsX6_reroute wsX6_isLight := goodIn_r _ [9, 10, 11, 12, 8, 13, 83, 84, 85, 86, 87, 88, 89, 90, 91, 92, 93, 94, 95, 96, 97, 98, 99, 100, 101, 102, 103, 104, 105, 106, 107, 108, 109, 110] (by decide +kernel) (by decide +kernel)
set_option maxRecDepth 20000 in
theorem gX6_reroute_X6_isLight : GoodIn wsX6_reroute (wsV RX6 218 RX6 yX6_isLight wsX6_isLight) := goodIn_app (goodIn_of _ (by decide +kernel)) ggX6_reroute_X6_isLight
set_option maxRecDepth 20000 in
theorem ggX6_reroute_X6_finds : GoodIn wsX6_reroute wsX6_finds := goodIn_r _ [17, 4, 18, 19, 20, 21, 8, 22, 23, 24, 25, 26, 27, 28, 29, 30, 31, 32, 33, 34, 35, 36, 37, 38, 39, 40, 41, 42, 43, 44, 45, 46, 47, 48, 49, 50, 51, 52, 53, 54, 55, 56, 57, 58, 59, 60, 61, 83, 84, 85, 86, 87, 88, 89, 90, 91, 92, 93, 94, 95, 96, 97, 98, 99, 100, 101, 102, 103, 104, 105, 106, 107, 108, 109, 110] (by decide +kernel) (by decide +kernel)
set_option maxRecDepth 20000 in
theorem gX6_reroute_X6_finds : GoodIn wsX6_reroute (wsV RX6 161 RX6 yX6_finds wsX6_finds) := goodIn_app (goodIn_of _ (by decide +kernel)) ggX6_reroute_X6_finds
set_option maxRecDepth 20000 in
theorem ggX6_reroute_X6_holds : GoodIn wsX6_reroute wsX6_holds := goodIn_r _ [65, 66, 83, 84, 85, 86, 87, 88, 89, 90, 91, 92, 93, 94, 95, 96, 97, 98, 99, 100, 101, 102, 103, 104, 105, 106, 107, 108, 109, 110] (by decide +kernel) (by decide +kernel)
set_option maxRecDepth 20000 in
theorem gX6_reroute_X6_holds : GoodIn wsX6_reroute (wsV RX6 103 RX6 yX6_holds wsX6_holds) := goodIn_app (goodIn_of _ (by decide +kernel)) ggX6_reroute_X6_holds
set_option maxRecDepth 20000 in
theorem ggX6_reroute_X6_uses : GoodIn wsX6_reroute wsX6_uses := goodIn_r _ [70, 45, 71, 72, 73, 8, 74, 75, 76, 77, 78, 83, 84, 85, 86, 87, 88, 89, 90, 91, 92, 93, 94, 95, 96, 97, 98, 99, 100, 101, 102, 103, 104, 105, 106, 107, 108, 109, 110] (by decide +kernel) (by decide +kernel)
set_option maxRecDepth 20000 in
theorem gX6_reroute_X6_uses : GoodIn wsX6_reroute (wsV RX6 185 RX6 yX6_uses wsX6_uses) := goodIn_app (goodIn_of _ (by decide +kernel)) ggX6_reroute_X6_uses
set_option maxRecDepth 20000 in
theorem ggX6_reroute_X6_gets : GoodIn wsX6_reroute wsX6_gets := goodIn_r _ [82, 75, 67, 68, 69, 8, 70, 45, 71, 72, 73, 74, 76, 77, 78, 83, 84, 85, 86, 87, 88, 89, 90, 91, 92, 93, 94, 95, 96, 97, 98, 99, 100, 101, 102, 103, 104, 105, 106, 107, 108, 109, 110] (by decide +kernel) (by decide +kernel)
set_option maxRecDepth 20000 in
theorem gX6_reroute_X6_gets : GoodIn wsX6_reroute (wsV RX6 195 RX6 yX6_gets wsX6_gets) := goodIn_app (goodIn_of _ (by decide +kernel)) ggX6_reroute_X6_gets
theorem dX6_reroute_0 : decode cX6_reroute 0 = .ok (.aload_n 0, 1) := by decide +kernel
theorem dX6_reroute_1 : decode cX6_reroute 1 = .ok (.iload_n 1, 1) := by decide +kernel
theorem dX6_reroute_2 : decode cX6_reroute 2 = .ok (.invokevirtual 218, 3) := by decide +kernel
theorem dX6_reroute_5 : decode cX6_reroute 5 = .ok (.ifCond .eq 40, 3) := by decide +kernel
theorem dX6_reroute_8 : decode cX6_reroute 8 = .ok (.aload_n 0, 1) := by decide +kernel
theorem dX6_reroute_9 : decode cX6_reroute 9 = .ok (.getfield 48, 3) := by decide +kernel
theorem dX6_reroute_12 : decode cX6_reroute 12 = .ok (.iload_n 1, 1) := by decide +kernel
theorem dX6_reroute_13 : decode cX6_reroute 13 = .ok (.iaload, 1) := by decide +kernel
theorem dX6_reroute_14 : decode cX6_reroute 14 = .ok (.iconst 1, 1) := by decide +kernel
theorem dX6_reroute_15 : decode cX6_reroute 15 = .ok (.if_icmp .ne 30, 3) := by decide +kernel
theorem dX6_reroute_18 : decode cX6_reroute 18 = .ok (.aload_n 0, 1) := by decide +kernel
theorem dX6_reroute_19 : decode cX6_reroute 19 = .ok (.aload_n 0, 1) := by decide +kernel
theorem dX6_reroute_20 : decode cX6_reroute 20 = .ok (.getfield 42, 3) := by decide +kernel
theorem dX6_reroute_23 : decode cX6_reroute 23 = .ok (.iload_n 1, 1) := by decide +kernel
theorem dX6_reroute_24 : decode cX6_reroute 24 = .ok (.iaload, 1) := by decide +kernel
theorem dX6_reroute_25 : decode cX6_reroute 25 = .ok (.aload_n 0, 1) := by decide +kernel
theorem dX6_reroute_26 : decode cX6_reroute 26 = .ok (.getfield 45, 3) := by decide +kernel
theorem dX6_reroute_29 : decode cX6_reroute 29 = .ok (.iload_n 1, 1) := by decide +kernel
theorem dX6_reroute_30 : decode cX6_reroute 30 = .ok (.iaload, 1) := by decide +kernel
theorem dX6_reroute_31 : decode cX6_reroute 31 = .ok (.iload_n 1, 1) := by decide +kernel
theorem dX6_reroute_32 : decode cX6_reroute 32 = .ok (.sipush 255, 3) := by decide +kernel
theorem dX6_reroute_35 : decode cX6_reroute 35 = .ok (.invokevirtual 161, 3) := by decide +kernel
theorem dX6_reroute_38 : decode cX6_reroute 38 = .ok (.ifCond .eq 7, 3) := by decide +kernel
theorem dX6_reroute_41 : decode cX6_reroute 41 = .ok (.iconst 1, 1) := by decide +kernel
theorem dX6_reroute_42 : decode cX6_reroute 42 = .ok (.goto 4, 3) := by decide +kernel
theorem dX6_reroute_45 : decode cX6_reroute 45 = .ok (.iconst 0, 1) := by decide +kernel
theorem dX6_reroute_46 : decode cX6_reroute 46 = .ok (.istore_n 2, 1) := by decide +kernel
theorem dX6_reroute_47 : decode cX6_reroute 47 = .ok (.aload_n 0, 1) := by decide +kernel
theorem dX6_reroute_48 : decode cX6_reroute 48 = .ok (.aload_n 0, 1) := by decide +kernel
theorem dX6_reroute_49 : decode cX6_reroute 49 = .ok (.iload_n 1, 1) := by decide +kernel
theorem dX6_reroute_50 : decode cX6_reroute 50 = .ok (.invokevirtual 218, 3) := by decide +kernel
theorem dX6_reroute_53 : decode cX6_reroute 53 = .ok (.ifCond .ne 7, 3) := by decide +kernel
theorem dX6_reroute_56 : decode cX6_reroute 56 = .ok (.iconst 1, 1) := by decide +kernel
theorem dX6_reroute_57 : decode cX6_reroute 57 = .ok (.goto 12, 3) := by decide +kernel
theorem dX6_reroute_60 : decode cX6_reroute 60 = .ok (.iload_n 2, 1) := by decide +kernel
theorem dX6_reroute_61 : decode cX6_reroute 61 = .ok (.ifCond .eq 7, 3) := by decide +kernel
theorem dX6_reroute_64 : decode cX6_reroute 64 = .ok (.iconst 0, 1) := by decide +kernel
theorem dX6_reroute_65 : decode cX6_reroute 65 = .ok (.goto 4, 3) := by decide +kernel
theorem dX6_reroute_68 : decode cX6_reroute 68 = .ok (.iconst 2, 1) := by decide +kernel
theorem dX6_reroute_69 : decode cX6_reroute 69 = .ok (.invokevirtual 103, 3) := by decide +kernel
theorem dX6_reroute_72 : decode cX6_reroute 72 = .ok (.ifCond .ne 5, 3) := by decide +kernel
theorem dX6_reroute_75 : decode cX6_reroute 75 = .ok (.iconst 0, 1) := by decide +kernel
theorem dX6_reroute_76 : decode cX6_reroute 76 = .ok (.ireturn, 1) := by decide +kernel
theorem dX6_reroute_77 : decode cX6_reroute 77 = .ok (.aload_n 0, 1) := by decide +kernel
theorem dX6_reroute_78 : decode cX6_reroute 78 = .ok (.iload_n 1, 1) := by decide +kernel
theorem dX6_reroute_79 : decode cX6_reroute 79 = .ok (.iconst 0, 1) := by decide +kernel
theorem dX6_reroute_80 : decode cX6_reroute 80 = .ok (.iconst (-1), 1) := by decide +kernel
theorem dX6_reroute_81 : decode cX6_reroute 81 = .ok (.invokevirtual 185, 3) := by decide +kernel
theorem dX6_reroute_84 : decode cX6_reroute 84 = .ok (.aload_n 0, 1) := by decide +kernel
theorem dX6_reroute_85 : decode cX6_reroute 85 = .ok (.iload_n 1, 1) := by decide +kernel
theorem dX6_reroute_86 : decode cX6_reroute 86 = .ok (.iconst 0, 1) := by decide +kernel
theorem dX6_reroute_87 : decode cX6_reroute 87 = .ok (.aload_n 0, 1) := by decide +kernel
theorem dX6_reroute_88 : decode cX6_reroute 88 = .ok (.getfield 66, 3) := by decide +kernel
theorem dX6_reroute_91 : decode cX6_reroute 91 = .ok (.invokevirtual 195, 3) := by decide +kernel
theorem dX6_reroute_94 : decode cX6_reroute 94 = .ok (.aload_n 0, 1) := by decide +kernel
theorem dX6_reroute_95 : decode cX6_reroute 95 = .ok (.getfield 66, 3) := by decide +kernel
theorem dX6_reroute_98 : decode cX6_reroute 98 = .ok (.bipush 8, 2) := by decide +kernel
theorem dX6_reroute_100 : decode cX6_reroute 100 = .ok (.iaload, 1) := by decide +kernel
theorem dX6_reroute_101 : decode cX6_reroute 101 = .ok (.ireturn, 1) := by decide +kernel
set_option maxRecDepth 20000 in
theorem ggX6_areMergeable_X6_isUp : GoodIn wsX6_areMergeable wsX6_isUp := goodIn_r _ [8, 1, 9, 10, 11, 12, 7, 13, 14, 26, 27, 28, 29, 30, 31, 32, 33, 34, 35, 36, 37, 38, 39, 40, 41, 42, 43, 44, 45, 46, 47, 48, 49, 50, 51, 52, 53] (by decide +kernel) (by decide +kernel)
set_option maxRecDepth 20000 in
theorem gX6_areMergeable_X6_isUp : GoodIn wsX6_areMergeable (wsV RX6 111 RX6 yX6_isUp wsX6_isUp) := goodIn_app (goodIn_of _ (by decide +kernel)) ggX6_areMergeable_X6_isUp
set_option maxRecDepth 20000 in
theorem ggX6_areMergeable_X6_haveSameEnds : GoodIn wsX6_areMergeable wsX6_haveSameEnds := goodIn_r _ [18, 2, 3, 26, 27, 28, 29, 30, 31, 32, 33, 34, 35, 36, 37, 38, 39, 40, 41, 42, 43, 44, 45, 46, 47, 48, 49, 50, 51, 52, 53] (by decide +kernel) (by decide +kernel)
set_option maxRecDepth 20000 in
theorem gX6_areMergeable_X6_haveSameEnds : GoodIn wsX6_areMergeable (wsV RX6 189 RX6 yX6_haveSameEnds wsX6_haveSameEnds) := goodIn_app (goodIn_of _ (by decide +kernel)) ggX6_areMergeable_X6_haveSameEnds
set_option maxRecDepth 20000 in
theorem ggX6_areMergeable_X6_carried : GoodIn wsX6_areMergeable wsX6_carried := goodIn_r _ [22, 23, 24, 25, 26, 27, 28, 29, 30, 31, 32, 33, 34, 35, 36, 37, 38, 39, 40, 41, 42, 43, 44, 45, 46, 47, 48, 49, 50, 51, 52, 53] (by decide +kernel) (by decide +kernel)
set_option maxRecDepth 20000 in
theorem gX6_areMergeable_X6_carried : GoodIn wsX6_areMergeable (wsV RX6 192 RX6 yX6_carried wsX6_carried) := goodIn_app (goodIn_of _ (by decide +kernel)) ggX6_areMergeable_X6_carried
theorem dX6_areMergeable_0 : decode cX6_areMergeable 0 = .ok (.aload_n 0, 1) := by decide +kernel
theorem dX6_areMergeable_1 : decode cX6_areMergeable 1 = .ok (.iload_n 1, 1) := by decide +kernel
theorem dX6_areMergeable_2 : decode cX6_areMergeable 2 = .ok (.invokevirtual 111, 3) := by decide +kernel
theorem dX6_areMergeable_5 : decode cX6_areMergeable 5 = .ok (.ifCond .eq 71, 3) := by decide +kernel
theorem dX6_areMergeable_8 : decode cX6_areMergeable 8 = .ok (.aload_n 0, 1) := by decide +kernel
theorem dX6_areMergeable_9 : decode cX6_areMergeable 9 = .ok (.iload_n 2, 1) := by decide +kernel
theorem dX6_areMergeable_10 : decode cX6_areMergeable 10 = .ok (.invokevirtual 111, 3) := by decide +kernel
theorem dX6_areMergeable_13 : decode cX6_areMergeable 13 = .ok (.ifCond .eq 63, 3) := by decide +kernel
theorem dX6_areMergeable_16 : decode cX6_areMergeable 16 = .ok (.aload_n 0, 1) := by decide +kernel
theorem dX6_areMergeable_17 : decode cX6_areMergeable 17 = .ok (.getfield 48, 3) := by decide +kernel
theorem dX6_areMergeable_20 : decode cX6_areMergeable 20 = .ok (.iload_n 1, 1) := by decide +kernel
theorem dX6_areMergeable_21 : decode cX6_areMergeable 21 = .ok (.iaload, 1) := by decide +kernel
theorem dX6_areMergeable_22 : decode cX6_areMergeable 22 = .ok (.iconst 1, 1) := by decide +kernel
theorem dX6_areMergeable_23 : decode cX6_areMergeable 23 = .ok (.if_icmp .ne 53, 3) := by decide +kernel
theorem dX6_areMergeable_26 : decode cX6_areMergeable 26 = .ok (.aload_n 0, 1) := by decide +kernel
theorem dX6_areMergeable_27 : decode cX6_areMergeable 27 = .ok (.getfield 48, 3) := by decide +kernel
theorem dX6_areMergeable_30 : decode cX6_areMergeable 30 = .ok (.iload_n 2, 1) := by decide +kernel
theorem dX6_areMergeable_31 : decode cX6_areMergeable 31 = .ok (.iaload, 1) := by decide +kernel
theorem dX6_areMergeable_32 : decode cX6_areMergeable 32 = .ok (.iconst 1, 1) := by decide +kernel
theorem dX6_areMergeable_33 : decode cX6_areMergeable 33 = .ok (.if_icmp .ne 43, 3) := by decide +kernel
theorem dX6_areMergeable_36 : decode cX6_areMergeable 36 = .ok (.aload_n 0, 1) := by decide +kernel
theorem dX6_areMergeable_37 : decode cX6_areMergeable 37 = .ok (.iload_n 1, 1) := by decide +kernel
theorem dX6_areMergeable_38 : decode cX6_areMergeable 38 = .ok (.aload_n 0, 1) := by decide +kernel
theorem dX6_areMergeable_39 : decode cX6_areMergeable 39 = .ok (.getfield 42, 3) := by decide +kernel
theorem dX6_areMergeable_42 : decode cX6_areMergeable 42 = .ok (.iload_n 2, 1) := by decide +kernel
theorem dX6_areMergeable_43 : decode cX6_areMergeable 43 = .ok (.iaload, 1) := by decide +kernel
theorem dX6_areMergeable_44 : decode cX6_areMergeable 44 = .ok (.aload_n 0, 1) := by decide +kernel
theorem dX6_areMergeable_45 : decode cX6_areMergeable 45 = .ok (.getfield 45, 3) := by decide +kernel
theorem dX6_areMergeable_48 : decode cX6_areMergeable 48 = .ok (.iload_n 2, 1) := by decide +kernel
theorem dX6_areMergeable_49 : decode cX6_areMergeable 49 = .ok (.iaload, 1) := by decide +kernel
theorem dX6_areMergeable_50 : decode cX6_areMergeable 50 = .ok (.invokevirtual 189, 3) := by decide +kernel
theorem dX6_areMergeable_53 : decode cX6_areMergeable 53 = .ok (.ifCond .eq 23, 3) := by decide +kernel
theorem dX6_areMergeable_56 : decode cX6_areMergeable 56 = .ok (.aload_n 0, 1) := by decide +kernel
theorem dX6_areMergeable_57 : decode cX6_areMergeable 57 = .ok (.iload_n 1, 1) := by decide +kernel
theorem dX6_areMergeable_58 : decode cX6_areMergeable 58 = .ok (.invokevirtual 192, 3) := by decide +kernel
theorem dX6_areMergeable_61 : decode cX6_areMergeable 61 = .ok (.aload_n 0, 1) := by decide +kernel
theorem dX6_areMergeable_62 : decode cX6_areMergeable 62 = .ok (.iload_n 2, 1) := by decide +kernel
theorem dX6_areMergeable_63 : decode cX6_areMergeable 63 = .ok (.invokevirtual 192, 3) := by decide +kernel
theorem dX6_areMergeable_66 : decode cX6_areMergeable 66 = .ok (.iadd, 1) := by decide +kernel
theorem dX6_areMergeable_67 : decode cX6_areMergeable 67 = .ok (.bipush 10, 2) := by decide +kernel
theorem dX6_areMergeable_69 : decode cX6_areMergeable 69 = .ok (.if_icmp .gt 7, 3) := by decide +kernel
theorem dX6_areMergeable_72 : decode cX6_areMergeable 72 = .ok (.iconst 1, 1) := by decide +kernel
theorem dX6_areMergeable_73 : decode cX6_areMergeable 73 = .ok (.goto 4, 3) := by decide +kernel
theorem dX6_areMergeable_76 : decode cX6_areMergeable 76 = .ok (.iconst 0, 1) := by decide +kernel
theorem dX6_areMergeable_77 : decode cX6_areMergeable 77 = .ok (.ireturn, 1) := by decide +kernel
set_option maxRecDepth 20000 in
theorem ggX6_merge_X6_areMergeable : GoodIn wsX6_merge wsX6_areMergeable := goodIn_r _ [7, 8, 9, 10, 11, 12, 13, 6, 14, 15, 16, 17, 18, 19, 20, 21, 22, 23, 24, 25, 26, 27, 28, 29, 30, 31, 48, 49, 50, 51, 52, 53, 54, 55, 56, 57, 58, 59, 60, 61, 62, 63, 64, 65, 66, 67, 68, 69, 70, 71, 72, 73, 74, 75] (by decide +kernel) (by decide +kernel)
set_option maxRecDepth 20000 in
theorem gX6_merge_X6_areMergeable : GoodIn wsX6_merge (wsV RX6 224 RX6 yX6_areMergeable wsX6_areMergeable) := goodIn_app (goodIn_of _ (by decide +kernel)) ggX6_merge_X6_areMergeable
set_option maxRecDepth 20000 in
theorem ggX6_merge_X6_takesOver : GoodIn wsX6_merge wsX6_takesOver := goodIn_r _ [35, 29, 30, 31, 36, 37, 38, 6, 39, 8, 40, 41, 42, 43, 44, 16, 17, 18, 19, 20, 45, 46, 47, 48, 49, 50, 51, 52, 53, 54, 55, 56, 57, 58, 59, 60, 61, 62, 63, 64, 65, 66, 67, 68, 69, 70, 71, 72, 73, 74, 75] (by decide +kernel) (by decide +kernel)
set_option maxRecDepth 20000 in
theorem gX6_merge_X6_takesOver : GoodIn wsX6_merge (wsV RX6 227 RX6 yX6_takesOver wsX6_takesOver) := goodIn_app (goodIn_of _ (by decide +kernel)) ggX6_merge_X6_takesOver
theorem dX6_merge_0 : decode cX6_merge 0 = .ok (.iconst 0, 1) := by decide +kernel
theorem dX6_merge_1 : decode cX6_merge 1 = .ok (.istore_n 1, 1) := by decide +kernel
theorem dX6_merge_2 : decode cX6_merge 2 = .ok (.iload_n 1, 1) := by decide +kernel
theorem dX6_merge_3 : decode cX6_merge 3 = .ok (.aload_n 0, 1) := by decide +kernel
theorem dX6_merge_4 : decode cX6_merge 4 = .ok (.getfield 96, 3) := by decide +kernel
theorem dX6_merge_7 : decode cX6_merge 7 = .ok (.if_icmp .ge 49, 3) := by decide +kernel
theorem dX6_merge_10 : decode cX6_merge 10 = .ok (.iload_n 1, 1) := by decide +kernel
theorem dX6_merge_11 : decode cX6_merge 11 = .ok (.iconst 1, 1) := by decide +kernel
theorem dX6_merge_12 : decode cX6_merge 12 = .ok (.iadd, 1) := by decide +kernel
theorem dX6_merge_13 : decode cX6_merge 13 = .ok (.istore_n 2, 1) := by decide +kernel
theorem dX6_merge_14 : decode cX6_merge 14 = .ok (.iload_n 2, 1) := by decide +kernel
theorem dX6_merge_15 : decode cX6_merge 15 = .ok (.aload_n 0, 1) := by decide +kernel
theorem dX6_merge_16 : decode cX6_merge 16 = .ok (.getfield 96, 3) := by decide +kernel
theorem dX6_merge_19 : decode cX6_merge 19 = .ok (.if_icmp .ge 31, 3) := by decide +kernel
theorem dX6_merge_22 : decode cX6_merge 22 = .ok (.aload_n 0, 1) := by decide +kernel
theorem dX6_merge_23 : decode cX6_merge 23 = .ok (.iload_n 1, 1) := by decide +kernel
theorem dX6_merge_24 : decode cX6_merge 24 = .ok (.iload_n 2, 1) := by decide +kernel
theorem dX6_merge_25 : decode cX6_merge 25 = .ok (.invokevirtual 224, 3) := by decide +kernel
theorem dX6_merge_28 : decode cX6_merge 28 = .ok (.ifCond .eq 16, 3) := by decide +kernel
theorem dX6_merge_31 : decode cX6_merge 31 = .ok (.aload_n 0, 1) := by decide +kernel
theorem dX6_merge_32 : decode cX6_merge 32 = .ok (.iconst 0, 1) := by decide +kernel
theorem dX6_merge_33 : decode cX6_merge 33 = .ok (.putfield 87, 3) := by decide +kernel
theorem dX6_merge_36 : decode cX6_merge 36 = .ok (.aload_n 0, 1) := by decide +kernel
theorem dX6_merge_37 : decode cX6_merge 37 = .ok (.iload_n 1, 1) := by decide +kernel
theorem dX6_merge_38 : decode cX6_merge 38 = .ok (.iload_n 2, 1) := by decide +kernel
theorem dX6_merge_39 : decode cX6_merge 39 = .ok (.invokevirtual 227, 3) := by decide +kernel
theorem dX6_merge_42 : decode cX6_merge 42 = .ok (.iload_n 2, 1) := by decide +kernel
theorem dX6_merge_43 : decode cX6_merge 43 = .ok (.ireturn, 1) := by decide +kernel
theorem dX6_merge_44 : decode cX6_merge 44 = .ok (.iinc 2 1, 3) := by decide +kernel
theorem dX6_merge_47 : decode cX6_merge 47 = .ok (.goto (-33), 3) := by decide +kernel
theorem dX6_merge_50 : decode cX6_merge 50 = .ok (.iinc 1 1, 3) := by decide +kernel
theorem dX6_merge_53 : decode cX6_merge 53 = .ok (.goto (-51), 3) := by decide +kernel
theorem dX6_merge_56 : decode cX6_merge 56 = .ok (.aload_n 0, 1) := by decide +kernel
theorem dX6_merge_57 : decode cX6_merge 57 = .ok (.iconst 1, 1) := by decide +kernel
theorem dX6_merge_58 : decode cX6_merge 58 = .ok (.putfield 87, 3) := by decide +kernel
theorem dX6_merge_61 : decode cX6_merge 61 = .ok (.iconst 0, 1) := by decide +kernel
theorem dX6_merge_62 : decode cX6_merge 62 = .ok (.ireturn, 1) := by decide +kernel
set_option maxRecDepth 20000 in
theorem ggX6_takesOver_X6_ends : GoodIn wsX6_takesOver wsX6_ends := goodIn_r _ [8, 9, 10, 11, 12, 7, 13, 14, 15, 16, 17, 18, 19, 20, 21, 22, 23, 24, 25, 26, 27, 28, 29, 30, 31, 32, 33, 34, 35, 36, 37, 38, 39, 40, 41, 42, 43, 44, 45, 46, 47, 48, 49, 50] (by decide +kernel) (by decide +kernel)
set_option maxRecDepth 20000 in
theorem gX6_takesOver_X6_ends : GoodIn wsX6_takesOver (wsV RX6 215 RX6 yX6_ends wsX6_ends) := goodIn_app (goodIn_of _ (by decide +kernel)) ggX6_takesOver_X6_ends
theorem dX6_takesOver_0 : decode cX6_takesOver 0 = .ok (.iconst 0, 1) := by decide +kernel
theorem dX6_takesOver_1 : decode cX6_takesOver 1 = .ok (.istore_n 3, 1) := by decide +kernel
theorem dX6_takesOver_2 : decode cX6_takesOver 2 = .ok (.iload_n 3, 1) := by decide +kernel
theorem dX6_takesOver_3 : decode cX6_takesOver 3 = .ok (.aload_n 0, 1) := by decide +kernel
theorem dX6_takesOver_4 : decode cX6_takesOver 4 = .ok (.getfield 93, 3) := by decide +kernel
theorem dX6_takesOver_7 : decode cX6_takesOver 7 = .ok (.if_icmp .ge 44, 3) := by decide +kernel
theorem dX6_takesOver_10 : decode cX6_takesOver 10 = .ok (.aload_n 0, 1) := by decide +kernel
theorem dX6_takesOver_11 : decode cX6_takesOver 11 = .ok (.getfield 36, 3) := by decide +kernel
theorem dX6_takesOver_14 : decode cX6_takesOver 14 = .ok (.iload_n 3, 1) := by decide +kernel
theorem dX6_takesOver_15 : decode cX6_takesOver 15 = .ok (.aload_n 0, 1) := by decide +kernel
theorem dX6_takesOver_16 : decode cX6_takesOver 16 = .ok (.getfield 36, 3) := by decide +kernel
theorem dX6_takesOver_19 : decode cX6_takesOver 19 = .ok (.iload_n 3, 1) := by decide +kernel
theorem dX6_takesOver_20 : decode cX6_takesOver 20 = .ok (.iaload, 1) := by decide +kernel
theorem dX6_takesOver_21 : decode cX6_takesOver 21 = .ok (.iload_n 2, 1) := by decide +kernel
theorem dX6_takesOver_22 : decode cX6_takesOver 22 = .ok (.if_icmp .ne 16, 3) := by decide +kernel
theorem dX6_takesOver_25 : decode cX6_takesOver 25 = .ok (.aload_n 0, 1) := by decide +kernel
theorem dX6_takesOver_26 : decode cX6_takesOver 26 = .ok (.getfield 39, 3) := by decide +kernel
theorem dX6_takesOver_29 : decode cX6_takesOver 29 = .ok (.iload_n 3, 1) := by decide +kernel
theorem dX6_takesOver_30 : decode cX6_takesOver 30 = .ok (.iaload, 1) := by decide +kernel
theorem dX6_takesOver_31 : decode cX6_takesOver 31 = .ok (.ifCond .le 7, 3) := by decide +kernel
theorem dX6_takesOver_34 : decode cX6_takesOver 34 = .ok (.iload_n 1, 1) := by decide +kernel
theorem dX6_takesOver_35 : decode cX6_takesOver 35 = .ok (.goto 9, 3) := by decide +kernel
theorem dX6_takesOver_38 : decode cX6_takesOver 38 = .ok (.aload_n 0, 1) := by decide +kernel
theorem dX6_takesOver_39 : decode cX6_takesOver 39 = .ok (.getfield 36, 3) := by decide +kernel
theorem dX6_takesOver_42 : decode cX6_takesOver 42 = .ok (.iload_n 3, 1) := by decide +kernel
theorem dX6_takesOver_43 : decode cX6_takesOver 43 = .ok (.iaload, 1) := by decide +kernel
theorem dX6_takesOver_44 : decode cX6_takesOver 44 = .ok (.iastore, 1) := by decide +kernel
theorem dX6_takesOver_45 : decode cX6_takesOver 45 = .ok (.iinc 3 1, 3) := by decide +kernel
theorem dX6_takesOver_48 : decode cX6_takesOver 48 = .ok (.goto (-46), 3) := by decide +kernel
theorem dX6_takesOver_51 : decode cX6_takesOver 51 = .ok (.aload_n 0, 1) := by decide +kernel
theorem dX6_takesOver_52 : decode cX6_takesOver 52 = .ok (.iload_n 2, 1) := by decide +kernel
theorem dX6_takesOver_53 : decode cX6_takesOver 53 = .ok (.invokevirtual 215, 3) := by decide +kernel
theorem dX6_takesOver_56 : decode cX6_takesOver 56 = .ok (.return_, 1) := by decide +kernel
set_option maxRecDepth 20000 in
theorem ggX6_lower_X6_way : GoodIn wsX6_lower wsX6_way := goodIn_r _ [6, 7, 8, 9, 10, 11, 12, 13, 14, 15, 16, 17, 18, 19, 20, 21, 22, 23, 24, 25, 26, 27, 28, 29, 30, 31, 32, 33, 34, 35] (by decide +kernel) (by decide +kernel)
set_option maxRecDepth 20000 in
theorem gX6_lower_X6_way : GoodIn wsX6_lower (wsV RX6 178 RX6 yX6_way wsX6_way) := goodIn_app (goodIn_of _ (by decide +kernel)) ggX6_lower_X6_way
theorem dX6_lower_0 : decode cX6_lower 0 = .ok (.aload_n 0, 1) := by decide +kernel
theorem dX6_lower_1 : decode cX6_lower 1 = .ok (.iload_n 1, 1) := by decide +kernel
theorem dX6_lower_2 : decode cX6_lower 2 = .ok (.iload_n 2, 1) := by decide +kernel
theorem dX6_lower_3 : decode cX6_lower 3 = .ok (.iconst 0, 1) := by decide +kernel
theorem dX6_lower_4 : decode cX6_lower 4 = .ok (.invokevirtual 178, 3) := by decide +kernel
theorem dX6_lower_7 : decode cX6_lower 7 = .ok (.bipush 10, 2) := by decide +kernel
theorem dX6_lower_9 : decode cX6_lower 9 = .ok (.irem, 1) := by decide +kernel
theorem dX6_lower_10 : decode cX6_lower 10 = .ok (.istore_n 3, 1) := by decide +kernel
theorem dX6_lower_11 : decode cX6_lower 11 = .ok (.iconst 1, 1) := by decide +kernel
theorem dX6_lower_12 : decode cX6_lower 12 = .ok (.istore 4, 2) := by decide +kernel
theorem dX6_lower_14 : decode cX6_lower 14 = .ok (.iconst 1, 1) := by decide +kernel
theorem dX6_lower_15 : decode cX6_lower 15 = .ok (.istore 5, 2) := by decide +kernel
theorem dX6_lower_17 : decode cX6_lower 17 = .ok (.iload 5, 2) := by decide +kernel
theorem dX6_lower_19 : decode cX6_lower 19 = .ok (.aload_n 0, 1) := by decide +kernel
theorem dX6_lower_20 : decode cX6_lower 20 = .ok (.iload_n 1, 1) := by decide +kernel
theorem dX6_lower_21 : decode cX6_lower 21 = .ok (.iload_n 2, 1) := by decide +kernel
theorem dX6_lower_22 : decode cX6_lower 22 = .ok (.bipush 7, 2) := by decide +kernel
theorem dX6_lower_24 : decode cX6_lower 24 = .ok (.invokevirtual 178, 3) := by decide +kernel
theorem dX6_lower_27 : decode cX6_lower 27 = .ok (.if_icmp .ge 36, 3) := by decide +kernel
theorem dX6_lower_30 : decode cX6_lower 30 = .ok (.iload 4, 2) := by decide +kernel
theorem dX6_lower_32 : decode cX6_lower 32 = .ok (.ifCond .eq 22, 3) := by decide +kernel
theorem dX6_lower_35 : decode cX6_lower 35 = .ok (.aload_n 0, 1) := by decide +kernel
theorem dX6_lower_36 : decode cX6_lower 36 = .ok (.iload_n 1, 1) := by decide +kernel
theorem dX6_lower_37 : decode cX6_lower 37 = .ok (.iload_n 2, 1) := by decide +kernel
theorem dX6_lower_38 : decode cX6_lower 38 = .ok (.iload 5, 2) := by decide +kernel
theorem dX6_lower_40 : decode cX6_lower 40 = .ok (.invokevirtual 178, 3) := by decide +kernel
theorem dX6_lower_43 : decode cX6_lower 43 = .ok (.bipush 10, 2) := by decide +kernel
theorem dX6_lower_45 : decode cX6_lower 45 = .ok (.irem, 1) := by decide +kernel
theorem dX6_lower_46 : decode cX6_lower 46 = .ok (.iload_n 3, 1) := by decide +kernel
theorem dX6_lower_47 : decode cX6_lower 47 = .ok (.if_icmp .ne 7, 3) := by decide +kernel
theorem dX6_lower_50 : decode cX6_lower 50 = .ok (.iconst 1, 1) := by decide +kernel
theorem dX6_lower_51 : decode cX6_lower 51 = .ok (.goto 4, 3) := by decide +kernel
theorem dX6_lower_54 : decode cX6_lower 54 = .ok (.iconst 0, 1) := by decide +kernel
theorem dX6_lower_55 : decode cX6_lower 55 = .ok (.istore 4, 2) := by decide +kernel
theorem dX6_lower_57 : decode cX6_lower 57 = .ok (.iinc 5 1, 3) := by decide +kernel
theorem dX6_lower_60 : decode cX6_lower 60 = .ok (.goto (-43), 3) := by decide +kernel
theorem dX6_lower_63 : decode cX6_lower 63 = .ok (.iconst 0, 1) := by decide +kernel
theorem dX6_lower_64 : decode cX6_lower 64 = .ok (.istore 5, 2) := by decide +kernel
theorem dX6_lower_66 : decode cX6_lower 66 = .ok (.iload 5, 2) := by decide +kernel
theorem dX6_lower_68 : decode cX6_lower 68 = .ok (.iload_n 3, 1) := by decide +kernel
theorem dX6_lower_69 : decode cX6_lower 69 = .ok (.if_icmp .ge 85, 3) := by decide +kernel
theorem dX6_lower_72 : decode cX6_lower 72 = .ok (.iload 4, 2) := by decide +kernel
theorem dX6_lower_74 : decode cX6_lower 74 = .ok (.ifCond .eq 80, 3) := by decide +kernel
theorem dX6_lower_77 : decode cX6_lower 77 = .ok (.iconst 1, 1) := by decide +kernel
theorem dX6_lower_78 : decode cX6_lower 78 = .ok (.istore 6, 2) := by decide +kernel
theorem dX6_lower_80 : decode cX6_lower 80 = .ok (.iconst 0, 1) := by decide +kernel
theorem dX6_lower_81 : decode cX6_lower 81 = .ok (.istore 7, 2) := by decide +kernel
theorem dX6_lower_83 : decode cX6_lower 83 = .ok (.iload 7, 2) := by decide +kernel
theorem dX6_lower_85 : decode cX6_lower 85 = .ok (.aload_n 0, 1) := by decide +kernel
theorem dX6_lower_86 : decode cX6_lower 86 = .ok (.iload_n 1, 1) := by decide +kernel
theorem dX6_lower_87 : decode cX6_lower 87 = .ok (.iload_n 2, 1) := by decide +kernel
theorem dX6_lower_88 : decode cX6_lower 88 = .ok (.bipush 7, 2) := by decide +kernel
theorem dX6_lower_90 : decode cX6_lower 90 = .ok (.invokevirtual 178, 3) := by decide +kernel
theorem dX6_lower_93 : decode cX6_lower 93 = .ok (.if_icmp .ge 47, 3) := by decide +kernel
theorem dX6_lower_96 : decode cX6_lower 96 = .ok (.iload 6, 2) := by decide +kernel
theorem dX6_lower_98 : decode cX6_lower 98 = .ok (.ifCond .eq 33, 3) := by decide +kernel
theorem dX6_lower_101 : decode cX6_lower 101 = .ok (.aload_n 0, 1) := by decide +kernel
theorem dX6_lower_102 : decode cX6_lower 102 = .ok (.getfield 33, 3) := by decide +kernel
theorem dX6_lower_105 : decode cX6_lower 105 = .ok (.bipush 8, 2) := by decide +kernel
theorem dX6_lower_107 : decode cX6_lower 107 = .ok (.aload_n 0, 1) := by decide +kernel
theorem dX6_lower_108 : decode cX6_lower 108 = .ok (.iload_n 1, 1) := by decide +kernel
theorem dX6_lower_109 : decode cX6_lower 109 = .ok (.iload_n 2, 1) := by decide +kernel
theorem dX6_lower_110 : decode cX6_lower 110 = .ok (.iload 7, 2) := by decide +kernel
theorem dX6_lower_112 : decode cX6_lower 112 = .ok (.invokevirtual 178, 3) := by decide +kernel
theorem dX6_lower_115 : decode cX6_lower 115 = .ok (.bipush 10, 2) := by decide +kernel
theorem dX6_lower_117 : decode cX6_lower 117 = .ok (.idiv, 1) := by decide +kernel
theorem dX6_lower_118 : decode cX6_lower 118 = .ok (.imul, 1) := by decide +kernel
theorem dX6_lower_119 : decode cX6_lower 119 = .ok (.iload 5, 2) := by decide +kernel
theorem dX6_lower_121 : decode cX6_lower 121 = .ok (.iadd, 1) := by decide +kernel
theorem dX6_lower_122 : decode cX6_lower 122 = .ok (.iaload, 1) := by decide +kernel
theorem dX6_lower_123 : decode cX6_lower 123 = .ok (.iconst (-1), 1) := by decide +kernel
theorem dX6_lower_124 : decode cX6_lower 124 = .ok (.if_icmp .ne 7, 3) := by decide +kernel
theorem dX6_lower_127 : decode cX6_lower 127 = .ok (.iconst 1, 1) := by decide +kernel
theorem dX6_lower_128 : decode cX6_lower 128 = .ok (.goto 4, 3) := by decide +kernel
theorem dX6_lower_131 : decode cX6_lower 131 = .ok (.iconst 0, 1) := by decide +kernel
theorem dX6_lower_132 : decode cX6_lower 132 = .ok (.istore 6, 2) := by decide +kernel
theorem dX6_lower_134 : decode cX6_lower 134 = .ok (.iinc 7 1, 3) := by decide +kernel
theorem dX6_lower_137 : decode cX6_lower 137 = .ok (.goto (-54), 3) := by decide +kernel
theorem dX6_lower_140 : decode cX6_lower 140 = .ok (.iload 6, 2) := by decide +kernel
theorem dX6_lower_142 : decode cX6_lower 142 = .ok (.ifCond .eq 6, 3) := by decide +kernel
theorem dX6_lower_145 : decode cX6_lower 145 = .ok (.iload 5, 2) := by decide +kernel
theorem dX6_lower_147 : decode cX6_lower 147 = .ok (.ireturn, 1) := by decide +kernel
theorem dX6_lower_148 : decode cX6_lower 148 = .ok (.iinc 5 1, 3) := by decide +kernel
theorem dX6_lower_151 : decode cX6_lower 151 = .ok (.goto (-85), 3) := by decide +kernel
theorem dX6_lower_154 : decode cX6_lower 154 = .ok (.iconst (-1), 1) := by decide +kernel
theorem dX6_lower_155 : decode cX6_lower 155 = .ok (.ireturn, 1) := by decide +kernel
set_option maxRecDepth 20000 in
theorem ggX6_move_X6_lower : GoodIn wsX6_move wsX6_lower := goodIn_r _ [8, 9, 10, 11, 12, 7, 13, 14, 26, 27, 28, 29, 30, 31, 32, 33, 34, 35, 36, 37, 38, 39, 40, 41, 42, 43, 44, 45, 46, 47, 48, 49, 50, 51, 52, 53] (by decide +kernel) (by decide +kernel)
set_option maxRecDepth 20000 in
theorem gX6_move_X6_lower : GoodIn wsX6_move (wsV RX6 231 RX6 yX6_lower wsX6_lower) := goodIn_app (goodIn_of _ (by decide +kernel)) ggX6_move_X6_lower
set_option maxRecDepth 20000 in
theorem ggX6_move_X6_moves : GoodIn wsX6_move wsX6_moves := goodIn_r _ [18, 14, 19, 20, 21, 7, 22, 9, 10, 11, 12, 13, 23, 24, 25, 26, 27, 28, 29, 30, 31, 32, 33, 34, 35, 36, 37, 38, 39, 40, 41, 42, 43, 44, 45, 46, 47, 48, 49, 50, 51, 52, 53] (by decide +kernel) (by decide +kernel)
set_option maxRecDepth 20000 in
theorem gX6_move_X6_moves : GoodIn wsX6_move (wsV RX6 234 RX6 yX6_moves wsX6_moves) := goodIn_app (goodIn_of _ (by decide +kernel)) ggX6_move_X6_moves
theorem dX6_move_0 : decode cX6_move 0 = .ok (.iconst 0, 1) := by decide +kernel
theorem dX6_move_1 : decode cX6_move 1 = .ok (.istore_n 1, 1) := by decide +kernel
theorem dX6_move_2 : decode cX6_move 2 = .ok (.iload_n 1, 1) := by decide +kernel
theorem dX6_move_3 : decode cX6_move 3 = .ok (.aload_n 0, 1) := by decide +kernel
theorem dX6_move_4 : decode cX6_move 4 = .ok (.getfield 96, 3) := by decide +kernel
theorem dX6_move_7 : decode cX6_move 7 = .ok (.if_icmp .ge 52, 3) := by decide +kernel
theorem dX6_move_10 : decode cX6_move 10 = .ok (.iconst 0, 1) := by decide +kernel
theorem dX6_move_11 : decode cX6_move 11 = .ok (.istore_n 2, 1) := by decide +kernel
theorem dX6_move_12 : decode cX6_move 12 = .ok (.iload_n 2, 1) := by decide +kernel
theorem dX6_move_13 : decode cX6_move 13 = .ok (.aload_n 0, 1) := by decide +kernel
theorem dX6_move_14 : decode cX6_move 14 = .ok (.getfield 48, 3) := by decide +kernel
theorem dX6_move_17 : decode cX6_move 17 = .ok (.iload_n 1, 1) := by decide +kernel
theorem dX6_move_18 : decode cX6_move 18 = .ok (.iaload, 1) := by decide +kernel
theorem dX6_move_19 : decode cX6_move 19 = .ok (.if_icmp .ge 34, 3) := by decide +kernel
theorem dX6_move_22 : decode cX6_move 22 = .ok (.aload_n 0, 1) := by decide +kernel
theorem dX6_move_23 : decode cX6_move 23 = .ok (.iload_n 1, 1) := by decide +kernel
theorem dX6_move_24 : decode cX6_move 24 = .ok (.iload_n 2, 1) := by decide +kernel
theorem dX6_move_25 : decode cX6_move 25 = .ok (.invokevirtual 231, 3) := by decide +kernel
theorem dX6_move_28 : decode cX6_move 28 = .ok (.istore_n 3, 1) := by decide +kernel
theorem dX6_move_29 : decode cX6_move 29 = .ok (.iload_n 3, 1) := by decide +kernel
theorem dX6_move_30 : decode cX6_move 30 = .ok (.ifCond .lt 17, 3) := by decide +kernel
theorem dX6_move_33 : decode cX6_move 33 = .ok (.aload_n 0, 1) := by decide +kernel
theorem dX6_move_34 : decode cX6_move 34 = .ok (.iconst 0, 1) := by decide +kernel
theorem dX6_move_35 : decode cX6_move 35 = .ok (.putfield 87, 3) := by decide +kernel
theorem dX6_move_38 : decode cX6_move 38 = .ok (.aload_n 0, 1) := by decide +kernel
theorem dX6_move_39 : decode cX6_move 39 = .ok (.iload_n 1, 1) := by decide +kernel
theorem dX6_move_40 : decode cX6_move 40 = .ok (.iload_n 2, 1) := by decide +kernel
theorem dX6_move_41 : decode cX6_move 41 = .ok (.iload_n 3, 1) := by decide +kernel
theorem dX6_move_42 : decode cX6_move 42 = .ok (.invokevirtual 234, 3) := by decide +kernel
theorem dX6_move_45 : decode cX6_move 45 = .ok (.iload_n 1, 1) := by decide +kernel
theorem dX6_move_46 : decode cX6_move 46 = .ok (.ireturn, 1) := by decide +kernel
theorem dX6_move_47 : decode cX6_move 47 = .ok (.iinc 2 1, 3) := by decide +kernel
theorem dX6_move_50 : decode cX6_move 50 = .ok (.goto (-38), 3) := by decide +kernel
theorem dX6_move_53 : decode cX6_move 53 = .ok (.iinc 1 1, 3) := by decide +kernel
theorem dX6_move_56 : decode cX6_move 56 = .ok (.goto (-54), 3) := by decide +kernel
theorem dX6_move_59 : decode cX6_move 59 = .ok (.aload_n 0, 1) := by decide +kernel
theorem dX6_move_60 : decode cX6_move 60 = .ok (.iconst 1, 1) := by decide +kernel
theorem dX6_move_61 : decode cX6_move 61 = .ok (.putfield 87, 3) := by decide +kernel
theorem dX6_move_64 : decode cX6_move 64 = .ok (.iconst 0, 1) := by decide +kernel
theorem dX6_move_65 : decode cX6_move 65 = .ok (.ireturn, 1) := by decide +kernel
set_option maxRecDepth 20000 in
theorem ggX6_moves_X6_uses : GoodIn wsX6_moves wsX6_uses := goodIn_r _ [6, 7, 8, 9, 10, 5, 11, 1, 12, 13, 14, 15, 16, 17, 18, 19, 20, 21, 22, 23, 24, 25, 26, 27, 28, 29, 30, 31, 32, 33, 34, 35, 36, 37, 38, 39, 40, 41, 42] (by decide +kernel) (by decide +kernel)
set_option maxRecDepth 20000 in
theorem gX6_moves_X6_uses : GoodIn wsX6_moves (wsV RX6 185 RX6 yX6_uses wsX6_uses) := goodIn_app (goodIn_of _ (by decide +kernel)) ggX6_moves_X6_uses
set_option maxRecDepth 20000 in
theorem ggX6_moves_X6_way : GoodIn wsX6_moves wsX6_way := goodIn_r _ [11, 1, 15, 16, 17, 18, 19, 20, 21, 22, 23, 24, 25, 26, 27, 28, 29, 30, 31, 32, 33, 34, 35, 36, 37, 38, 39, 40, 41, 42] (by decide +kernel) (by decide +kernel)
set_option maxRecDepth 20000 in
theorem gX6_moves_X6_way : GoodIn wsX6_moves (wsV RX6 178 RX6 yX6_way wsX6_way) := goodIn_app (goodIn_of _ (by decide +kernel)) ggX6_moves_X6_way
theorem dX6_moves_0 : decode cX6_moves 0 = .ok (.aload_n 0, 1) := by decide +kernel
theorem dX6_moves_1 : decode cX6_moves 1 = .ok (.iload_n 1, 1) := by decide +kernel
theorem dX6_moves_2 : decode cX6_moves 2 = .ok (.iload_n 2, 1) := by decide +kernel
theorem dX6_moves_3 : decode cX6_moves 3 = .ok (.iconst (-1), 1) := by decide +kernel
theorem dX6_moves_4 : decode cX6_moves 4 = .ok (.invokevirtual 185, 3) := by decide +kernel
theorem dX6_moves_7 : decode cX6_moves 7 = .ok (.iconst 0, 1) := by decide +kernel
theorem dX6_moves_8 : decode cX6_moves 8 = .ok (.istore 4, 2) := by decide +kernel
theorem dX6_moves_10 : decode cX6_moves 10 = .ok (.iload 4, 2) := by decide +kernel
theorem dX6_moves_12 : decode cX6_moves 12 = .ok (.aload_n 0, 1) := by decide +kernel
theorem dX6_moves_13 : decode cX6_moves 13 = .ok (.iload_n 1, 1) := by decide +kernel
theorem dX6_moves_14 : decode cX6_moves 14 = .ok (.iload_n 2, 1) := by decide +kernel
theorem dX6_moves_15 : decode cX6_moves 15 = .ok (.bipush 7, 2) := by decide +kernel
theorem dX6_moves_17 : decode cX6_moves 17 = .ok (.invokevirtual 178, 3) := by decide +kernel
theorem dX6_moves_20 : decode cX6_moves 20 = .ok (.if_icmp .ge 42, 3) := by decide +kernel
theorem dX6_moves_23 : decode cX6_moves 23 = .ok (.aload_n 0, 1) := by decide +kernel
theorem dX6_moves_24 : decode cX6_moves 24 = .ok (.getfield 51, 3) := by decide +kernel
theorem dX6_moves_27 : decode cX6_moves 27 = .ok (.bipush 20, 2) := by decide +kernel
theorem dX6_moves_29 : decode cX6_moves 29 = .ok (.iload_n 1, 1) := by decide +kernel
theorem dX6_moves_30 : decode cX6_moves 30 = .ok (.imul, 1) := by decide +kernel
theorem dX6_moves_31 : decode cX6_moves 31 = .ok (.bipush 10, 2) := by decide +kernel
theorem dX6_moves_33 : decode cX6_moves 33 = .ok (.iload_n 2, 1) := by decide +kernel
theorem dX6_moves_34 : decode cX6_moves 34 = .ok (.imul, 1) := by decide +kernel
theorem dX6_moves_35 : decode cX6_moves 35 = .ok (.iadd, 1) := by decide +kernel
theorem dX6_moves_36 : decode cX6_moves 36 = .ok (.iload 4, 2) := by decide +kernel
theorem dX6_moves_38 : decode cX6_moves 38 = .ok (.iadd, 1) := by decide +kernel
theorem dX6_moves_39 : decode cX6_moves 39 = .ok (.aload_n 0, 1) := by decide +kernel
theorem dX6_moves_40 : decode cX6_moves 40 = .ok (.iload_n 1, 1) := by decide +kernel
theorem dX6_moves_41 : decode cX6_moves 41 = .ok (.iload_n 2, 1) := by decide +kernel
theorem dX6_moves_42 : decode cX6_moves 42 = .ok (.iload 4, 2) := by decide +kernel
theorem dX6_moves_44 : decode cX6_moves 44 = .ok (.invokevirtual 178, 3) := by decide +kernel
theorem dX6_moves_47 : decode cX6_moves 47 = .ok (.bipush 10, 2) := by decide +kernel
theorem dX6_moves_49 : decode cX6_moves 49 = .ok (.idiv, 1) := by decide +kernel
theorem dX6_moves_50 : decode cX6_moves 50 = .ok (.bipush 10, 2) := by decide +kernel
theorem dX6_moves_52 : decode cX6_moves 52 = .ok (.imul, 1) := by decide +kernel
theorem dX6_moves_53 : decode cX6_moves 53 = .ok (.iload_n 3, 1) := by decide +kernel
theorem dX6_moves_54 : decode cX6_moves 54 = .ok (.iadd, 1) := by decide +kernel
theorem dX6_moves_55 : decode cX6_moves 55 = .ok (.iastore, 1) := by decide +kernel
theorem dX6_moves_56 : decode cX6_moves 56 = .ok (.iinc 4 1, 3) := by decide +kernel
theorem dX6_moves_59 : decode cX6_moves 59 = .ok (.goto (-49), 3) := by decide +kernel
theorem dX6_moves_62 : decode cX6_moves 62 = .ok (.aload_n 0, 1) := by decide +kernel
theorem dX6_moves_63 : decode cX6_moves 63 = .ok (.iload_n 1, 1) := by decide +kernel
theorem dX6_moves_64 : decode cX6_moves 64 = .ok (.iload_n 2, 1) := by decide +kernel
theorem dX6_moves_65 : decode cX6_moves 65 = .ok (.iload_n 1, 1) := by decide +kernel
theorem dX6_moves_66 : decode cX6_moves 66 = .ok (.invokevirtual 185, 3) := by decide +kernel
theorem dX6_moves_69 : decode cX6_moves 69 = .ok (.return_, 1) := by decide +kernel
set_option maxRecDepth 20000 in
theorem ggX6_fibresOf_X6_way : GoodIn wsX6_fibresOf wsX6_way := goodIn_r _ [5, 6, 7, 8, 9, 10, 11, 12, 13, 14, 15, 16, 17, 18, 19, 20, 21, 22, 23, 24, 25, 26, 27, 28, 29, 30, 31, 32, 33, 34] (by decide +kernel) (by decide +kernel)
set_option maxRecDepth 20000 in
theorem gX6_fibresOf_X6_way : GoodIn wsX6_fibresOf (wsV RX6 178 RX6 yX6_way wsX6_way) := goodIn_app (goodIn_of _ (by decide +kernel)) ggX6_fibresOf_X6_way
theorem dX6_fibresOf_0 : decode cX6_fibresOf 0 = .ok (.iconst 0, 1) := by decide +kernel
theorem dX6_fibresOf_1 : decode cX6_fibresOf 1 = .ok (.istore_n 2, 1) := by decide +kernel
theorem dX6_fibresOf_2 : decode cX6_fibresOf 2 = .ok (.iconst 0, 1) := by decide +kernel
theorem dX6_fibresOf_3 : decode cX6_fibresOf 3 = .ok (.istore_n 3, 1) := by decide +kernel
theorem dX6_fibresOf_4 : decode cX6_fibresOf 4 = .ok (.iload_n 3, 1) := by decide +kernel
theorem dX6_fibresOf_5 : decode cX6_fibresOf 5 = .ok (.aload_n 0, 1) := by decide +kernel
theorem dX6_fibresOf_6 : decode cX6_fibresOf 6 = .ok (.iload_n 1, 1) := by decide +kernel
theorem dX6_fibresOf_7 : decode cX6_fibresOf 7 = .ok (.iconst 0, 1) := by decide +kernel
theorem dX6_fibresOf_8 : decode cX6_fibresOf 8 = .ok (.bipush 7, 2) := by decide +kernel
theorem dX6_fibresOf_10 : decode cX6_fibresOf 10 = .ok (.invokevirtual 178, 3) := by decide +kernel
theorem dX6_fibresOf_13 : decode cX6_fibresOf 13 = .ok (.if_icmp .ge 24, 3) := by decide +kernel
theorem dX6_fibresOf_16 : decode cX6_fibresOf 16 = .ok (.iload_n 2, 1) := by decide +kernel
theorem dX6_fibresOf_17 : decode cX6_fibresOf 17 = .ok (.iconst 1, 1) := by decide +kernel
theorem dX6_fibresOf_18 : decode cX6_fibresOf 18 = .ok (.aload_n 0, 1) := by decide +kernel
theorem dX6_fibresOf_19 : decode cX6_fibresOf 19 = .ok (.iload_n 1, 1) := by decide +kernel
theorem dX6_fibresOf_20 : decode cX6_fibresOf 20 = .ok (.iconst 0, 1) := by decide +kernel
theorem dX6_fibresOf_21 : decode cX6_fibresOf 21 = .ok (.iload_n 3, 1) := by decide +kernel
theorem dX6_fibresOf_22 : decode cX6_fibresOf 22 = .ok (.invokevirtual 178, 3) := by decide +kernel
theorem dX6_fibresOf_25 : decode cX6_fibresOf 25 = .ok (.bipush 10, 2) := by decide +kernel
theorem dX6_fibresOf_27 : decode cX6_fibresOf 27 = .ok (.idiv, 1) := by decide +kernel
theorem dX6_fibresOf_28 : decode cX6_fibresOf 28 = .ok (.ishl, 1) := by decide +kernel
theorem dX6_fibresOf_29 : decode cX6_fibresOf 29 = .ok (.ior, 1) := by decide +kernel
theorem dX6_fibresOf_30 : decode cX6_fibresOf 30 = .ok (.istore_n 2, 1) := by decide +kernel
theorem dX6_fibresOf_31 : decode cX6_fibresOf 31 = .ok (.iinc 3 1, 3) := by decide +kernel
theorem dX6_fibresOf_34 : decode cX6_fibresOf 34 = .ok (.goto (-30), 3) := by decide +kernel
theorem dX6_fibresOf_37 : decode cX6_fibresOf 37 = .ok (.iload_n 2, 1) := by decide +kernel
theorem dX6_fibresOf_38 : decode cX6_fibresOf 38 = .ok (.ireturn, 1) := by decide +kernel
set_option maxRecDepth 20000 in
theorem ggX6_laysCrossed_X6_fibresOf : GoodIn wsX6_laysCrossed wsX6_fibresOf := goodIn_r _ [9, 10, 11, 12, 8, 13, 14, 15, 16, 17, 18, 19, 20, 21, 22, 23, 24, 25, 26, 27, 28, 29, 30, 31, 32, 33, 34, 35, 36, 37, 38, 39, 40, 41, 42] (by decide +kernel) (by decide +kernel)
set_option maxRecDepth 20000 in
theorem gX6_laysCrossed_X6_fibresOf : GoodIn wsX6_laysCrossed (wsV RX6 237 RX6 yX6_fibresOf wsX6_fibresOf) := goodIn_app (goodIn_of _ (by decide +kernel)) ggX6_laysCrossed_X6_fibresOf
theorem dX6_laysCrossed_0 : decode cX6_laysCrossed 0 = .ok (.iconst 0, 1) := by decide +kernel
theorem dX6_laysCrossed_1 : decode cX6_laysCrossed 1 = .ok (.istore_n 1, 1) := by decide +kernel
theorem dX6_laysCrossed_2 : decode cX6_laysCrossed 2 = .ok (.iconst 0, 1) := by decide +kernel
theorem dX6_laysCrossed_3 : decode cX6_laysCrossed 3 = .ok (.istore_n 2, 1) := by decide +kernel
theorem dX6_laysCrossed_4 : decode cX6_laysCrossed 4 = .ok (.iload_n 2, 1) := by decide +kernel
theorem dX6_laysCrossed_5 : decode cX6_laysCrossed 5 = .ok (.aload_n 0, 1) := by decide +kernel
theorem dX6_laysCrossed_6 : decode cX6_laysCrossed 6 = .ok (.getfield 96, 3) := by decide +kernel
theorem dX6_laysCrossed_9 : decode cX6_laysCrossed 9 = .ok (.if_icmp .ge 28, 3) := by decide +kernel
theorem dX6_laysCrossed_12 : decode cX6_laysCrossed 12 = .ok (.aload_n 0, 1) := by decide +kernel
theorem dX6_laysCrossed_13 : decode cX6_laysCrossed 13 = .ok (.getfield 48, 3) := by decide +kernel
theorem dX6_laysCrossed_16 : decode cX6_laysCrossed 16 = .ok (.iload_n 2, 1) := by decide +kernel
theorem dX6_laysCrossed_17 : decode cX6_laysCrossed 17 = .ok (.iaload, 1) := by decide +kernel
theorem dX6_laysCrossed_18 : decode cX6_laysCrossed 18 = .ok (.ifCond .le 13, 3) := by decide +kernel
theorem dX6_laysCrossed_21 : decode cX6_laysCrossed 21 = .ok (.aload_n 0, 1) := by decide +kernel
theorem dX6_laysCrossed_22 : decode cX6_laysCrossed 22 = .ok (.getfield 75, 3) := by decide +kernel
theorem dX6_laysCrossed_25 : decode cX6_laysCrossed 25 = .ok (.iload_n 1, 1) := by decide +kernel
theorem dX6_laysCrossed_26 : decode cX6_laysCrossed 26 = .ok (.iload_n 2, 1) := by decide +kernel
theorem dX6_laysCrossed_27 : decode cX6_laysCrossed 27 = .ok (.iastore, 1) := by decide +kernel
theorem dX6_laysCrossed_28 : decode cX6_laysCrossed 28 = .ok (.iinc 1 1, 3) := by decide +kernel
theorem dX6_laysCrossed_31 : decode cX6_laysCrossed 31 = .ok (.iinc 2 1, 3) := by decide +kernel
theorem dX6_laysCrossed_34 : decode cX6_laysCrossed 34 = .ok (.goto (-30), 3) := by decide +kernel
theorem dX6_laysCrossed_37 : decode cX6_laysCrossed 37 = .ok (.iconst 0, 1) := by decide +kernel
theorem dX6_laysCrossed_38 : decode cX6_laysCrossed 38 = .ok (.istore_n 2, 1) := by decide +kernel
theorem dX6_laysCrossed_39 : decode cX6_laysCrossed 39 = .ok (.iload_n 2, 1) := by decide +kernel
theorem dX6_laysCrossed_40 : decode cX6_laysCrossed 40 = .ok (.iload_n 1, 1) := by decide +kernel
theorem dX6_laysCrossed_41 : decode cX6_laysCrossed 41 = .ok (.if_icmp .ge 74, 3) := by decide +kernel
theorem dX6_laysCrossed_44 : decode cX6_laysCrossed 44 = .ok (.aload_n 0, 1) := by decide +kernel
theorem dX6_laysCrossed_45 : decode cX6_laysCrossed 45 = .ok (.getfield 78, 3) := by decide +kernel
theorem dX6_laysCrossed_48 : decode cX6_laysCrossed 48 = .ok (.iload_n 2, 1) := by decide +kernel
theorem dX6_laysCrossed_49 : decode cX6_laysCrossed 49 = .ok (.iconst 0, 1) := by decide +kernel
theorem dX6_laysCrossed_50 : decode cX6_laysCrossed 50 = .ok (.iastore, 1) := by decide +kernel
theorem dX6_laysCrossed_51 : decode cX6_laysCrossed 51 = .ok (.iconst 0, 1) := by decide +kernel
theorem dX6_laysCrossed_52 : decode cX6_laysCrossed 52 = .ok (.istore_n 3, 1) := by decide +kernel
theorem dX6_laysCrossed_53 : decode cX6_laysCrossed 53 = .ok (.iload_n 3, 1) := by decide +kernel
theorem dX6_laysCrossed_54 : decode cX6_laysCrossed 54 = .ok (.iload_n 1, 1) := by decide +kernel
theorem dX6_laysCrossed_55 : decode cX6_laysCrossed 55 = .ok (.if_icmp .ge 54, 3) := by decide +kernel
theorem dX6_laysCrossed_58 : decode cX6_laysCrossed 58 = .ok (.aload_n 0, 1) := by decide +kernel
theorem dX6_laysCrossed_59 : decode cX6_laysCrossed 59 = .ok (.getfield 78, 3) := by decide +kernel
theorem dX6_laysCrossed_62 : decode cX6_laysCrossed 62 = .ok (.iload_n 2, 1) := by decide +kernel
theorem dX6_laysCrossed_63 : decode cX6_laysCrossed 63 = .ok (.dup2, 1) := by decide +kernel
theorem dX6_laysCrossed_64 : decode cX6_laysCrossed 64 = .ok (.iaload, 1) := by decide +kernel
theorem dX6_laysCrossed_65 : decode cX6_laysCrossed 65 = .ok (.iload_n 3, 1) := by decide +kernel
theorem dX6_laysCrossed_66 : decode cX6_laysCrossed 66 = .ok (.iload_n 2, 1) := by decide +kernel
theorem dX6_laysCrossed_67 : decode cX6_laysCrossed 67 = .ok (.if_icmp .eq 33, 3) := by decide +kernel
theorem dX6_laysCrossed_70 : decode cX6_laysCrossed 70 = .ok (.aload_n 0, 1) := by decide +kernel
theorem dX6_laysCrossed_71 : decode cX6_laysCrossed 71 = .ok (.aload_n 0, 1) := by decide +kernel
theorem dX6_laysCrossed_72 : decode cX6_laysCrossed 72 = .ok (.getfield 75, 3) := by decide +kernel
theorem dX6_laysCrossed_75 : decode cX6_laysCrossed 75 = .ok (.iload_n 2, 1) := by decide +kernel
theorem dX6_laysCrossed_76 : decode cX6_laysCrossed 76 = .ok (.iaload, 1) := by decide +kernel
theorem dX6_laysCrossed_77 : decode cX6_laysCrossed 77 = .ok (.invokevirtual 237, 3) := by decide +kernel
theorem dX6_laysCrossed_80 : decode cX6_laysCrossed 80 = .ok (.aload_n 0, 1) := by decide +kernel
theorem dX6_laysCrossed_81 : decode cX6_laysCrossed 81 = .ok (.aload_n 0, 1) := by decide +kernel
theorem dX6_laysCrossed_82 : decode cX6_laysCrossed 82 = .ok (.getfield 75, 3) := by decide +kernel
theorem dX6_laysCrossed_85 : decode cX6_laysCrossed 85 = .ok (.iload_n 3, 1) := by decide +kernel
theorem dX6_laysCrossed_86 : decode cX6_laysCrossed 86 = .ok (.iaload, 1) := by decide +kernel
theorem dX6_laysCrossed_87 : decode cX6_laysCrossed 87 = .ok (.invokevirtual 237, 3) := by decide +kernel
theorem dX6_laysCrossed_90 : decode cX6_laysCrossed 90 = .ok (.iand, 1) := by decide +kernel
theorem dX6_laysCrossed_91 : decode cX6_laysCrossed 91 = .ok (.ifCond .eq 9, 3) := by decide +kernel
theorem dX6_laysCrossed_94 : decode cX6_laysCrossed 94 = .ok (.iconst 1, 1) := by decide +kernel
theorem dX6_laysCrossed_95 : decode cX6_laysCrossed 95 = .ok (.iload_n 3, 1) := by decide +kernel
theorem dX6_laysCrossed_96 : decode cX6_laysCrossed 96 = .ok (.ishl, 1) := by decide +kernel
theorem dX6_laysCrossed_97 : decode cX6_laysCrossed 97 = .ok (.goto 4, 3) := by decide +kernel
theorem dX6_laysCrossed_100 : decode cX6_laysCrossed 100 = .ok (.iconst 0, 1) := by decide +kernel
theorem dX6_laysCrossed_101 : decode cX6_laysCrossed 101 = .ok (.ior, 1) := by decide +kernel
theorem dX6_laysCrossed_102 : decode cX6_laysCrossed 102 = .ok (.iastore, 1) := by decide +kernel
theorem dX6_laysCrossed_103 : decode cX6_laysCrossed 103 = .ok (.iinc 3 1, 3) := by decide +kernel
theorem dX6_laysCrossed_106 : decode cX6_laysCrossed 106 = .ok (.goto (-53), 3) := by decide +kernel
theorem dX6_laysCrossed_109 : decode cX6_laysCrossed 109 = .ok (.iinc 2 1, 3) := by decide +kernel
theorem dX6_laysCrossed_112 : decode cX6_laysCrossed 112 = .ok (.goto (-73), 3) := by decide +kernel
theorem dX6_laysCrossed_115 : decode cX6_laysCrossed 115 = .ok (.iload_n 1, 1) := by decide +kernel
theorem dX6_laysCrossed_116 : decode cX6_laysCrossed 116 = .ok (.ireturn, 1) := by decide +kernel
theorem dX6_isApart_0 : decode cX6_isApart 0 = .ok (.iconst 0, 1) := by decide +kernel
theorem dX6_isApart_1 : decode cX6_isApart 1 = .ok (.istore_n 3, 1) := by decide +kernel
theorem dX6_isApart_2 : decode cX6_isApart 2 = .ok (.iload_n 3, 1) := by decide +kernel
theorem dX6_isApart_3 : decode cX6_isApart 3 = .ok (.iload_n 2, 1) := by decide +kernel
theorem dX6_isApart_4 : decode cX6_isApart 4 = .ok (.if_icmp .ge 31, 3) := by decide +kernel
theorem dX6_isApart_7 : decode cX6_isApart 7 = .ok (.iload_n 1, 1) := by decide +kernel
theorem dX6_isApart_8 : decode cX6_isApart 8 = .ok (.iload_n 3, 1) := by decide +kernel
theorem dX6_isApart_9 : decode cX6_isApart 9 = .ok (.ishr, 1) := by decide +kernel
theorem dX6_isApart_10 : decode cX6_isApart 10 = .ok (.iconst 1, 1) := by decide +kernel
theorem dX6_isApart_11 : decode cX6_isApart 11 = .ok (.iand, 1) := by decide +kernel
theorem dX6_isApart_12 : decode cX6_isApart 12 = .ok (.iconst 1, 1) := by decide +kernel
theorem dX6_isApart_13 : decode cX6_isApart 13 = .ok (.if_icmp .ne 16, 3) := by decide +kernel
theorem dX6_isApart_16 : decode cX6_isApart 16 = .ok (.aload_n 0, 1) := by decide +kernel
theorem dX6_isApart_17 : decode cX6_isApart 17 = .ok (.getfield 78, 3) := by decide +kernel
theorem dX6_isApart_20 : decode cX6_isApart 20 = .ok (.iload_n 3, 1) := by decide +kernel
theorem dX6_isApart_21 : decode cX6_isApart 21 = .ok (.iaload, 1) := by decide +kernel
theorem dX6_isApart_22 : decode cX6_isApart 22 = .ok (.iload_n 1, 1) := by decide +kernel
theorem dX6_isApart_23 : decode cX6_isApart 23 = .ok (.iand, 1) := by decide +kernel
theorem dX6_isApart_24 : decode cX6_isApart 24 = .ok (.ifCond .eq 5, 3) := by decide +kernel
theorem dX6_isApart_27 : decode cX6_isApart 27 = .ok (.iconst 0, 1) := by decide +kernel
theorem dX6_isApart_28 : decode cX6_isApart 28 = .ok (.ireturn, 1) := by decide +kernel
theorem dX6_isApart_29 : decode cX6_isApart 29 = .ok (.iinc 3 1, 3) := by decide +kernel
theorem dX6_isApart_32 : decode cX6_isApart 32 = .ok (.goto (-30), 3) := by decide +kernel
theorem dX6_isApart_35 : decode cX6_isApart 35 = .ok (.iconst 1, 1) := by decide +kernel
theorem dX6_isApart_36 : decode cX6_isApart 36 = .ok (.ireturn, 1) := by decide +kernel
set_option maxRecDepth 20000 in
theorem ggX6_wavelengthsNeeded_X6_laysCrossed : GoodIn wsX6_wavelengthsNeeded wsX6_laysCrossed := goodIn_r _ [7, 8, 9, 10, 11, 12, 13, 14, 6, 15, 16, 17, 18, 19, 20, 25, 26, 27, 28, 29, 30, 31, 32, 33, 34, 35, 36, 37, 38, 39, 40, 41, 42, 43, 44, 45, 46, 47, 48, 49, 50, 51, 52] (by decide +kernel) (by decide +kernel)
set_option maxRecDepth 20000 in
theorem gX6_wavelengthsNeeded_X6_laysCrossed : GoodIn wsX6_wavelengthsNeeded (wsV RX6 240 RX6 yX6_laysCrossed wsX6_laysCrossed) := goodIn_app (goodIn_of _ (by decide +kernel)) ggX6_wavelengthsNeeded_X6_laysCrossed
set_option maxRecDepth 20000 in
theorem ggX6_wavelengthsNeeded_X6_isApart : GoodIn wsX6_wavelengthsNeeded wsX6_isApart := goodIn_r _ [24, 11, 25, 26, 27, 28, 29, 30, 31, 32, 33, 34, 35, 36, 37, 38, 39, 40, 41, 42, 43, 44, 45, 46, 47, 48, 49, 50, 51, 52] (by decide +kernel) (by decide +kernel)
set_option maxRecDepth 20000 in
theorem gX6_wavelengthsNeeded_X6_isApart : GoodIn wsX6_wavelengthsNeeded (wsV RX6 243 RX6 yX6_isApart wsX6_isApart) := goodIn_app (goodIn_of _ (by decide +kernel)) ggX6_wavelengthsNeeded_X6_isApart
theorem dX6_wavelengthsNeeded_0 : decode cX6_wavelengthsNeeded 0 = .ok (.aload_n 0, 1) := by decide +kernel
theorem dX6_wavelengthsNeeded_1 : decode cX6_wavelengthsNeeded 1 = .ok (.iconst 0, 1) := by decide +kernel
theorem dX6_wavelengthsNeeded_2 : decode cX6_wavelengthsNeeded 2 = .ok (.putfield 87, 3) := by decide +kernel
theorem dX6_wavelengthsNeeded_5 : decode cX6_wavelengthsNeeded 5 = .ok (.aload_n 0, 1) := by decide +kernel
theorem dX6_wavelengthsNeeded_6 : decode cX6_wavelengthsNeeded 6 = .ok (.invokevirtual 240, 3) := by decide +kernel
theorem dX6_wavelengthsNeeded_9 : decode cX6_wavelengthsNeeded 9 = .ok (.istore_n 1, 1) := by decide +kernel
theorem dX6_wavelengthsNeeded_10 : decode cX6_wavelengthsNeeded 10 = .ok (.aload_n 0, 1) := by decide +kernel
theorem dX6_wavelengthsNeeded_11 : decode cX6_wavelengthsNeeded 11 = .ok (.getfield 81, 3) := by decide +kernel
theorem dX6_wavelengthsNeeded_14 : decode cX6_wavelengthsNeeded 14 = .ok (.iconst 0, 1) := by decide +kernel
theorem dX6_wavelengthsNeeded_15 : decode cX6_wavelengthsNeeded 15 = .ok (.iconst 0, 1) := by decide +kernel
theorem dX6_wavelengthsNeeded_16 : decode cX6_wavelengthsNeeded 16 = .ok (.iastore, 1) := by decide +kernel
theorem dX6_wavelengthsNeeded_17 : decode cX6_wavelengthsNeeded 17 = .ok (.iconst 1, 1) := by decide +kernel
theorem dX6_wavelengthsNeeded_18 : decode cX6_wavelengthsNeeded 18 = .ok (.istore_n 2, 1) := by decide +kernel
theorem dX6_wavelengthsNeeded_19 : decode cX6_wavelengthsNeeded 19 = .ok (.iload_n 2, 1) := by decide +kernel
theorem dX6_wavelengthsNeeded_20 : decode cX6_wavelengthsNeeded 20 = .ok (.iconst 1, 1) := by decide +kernel
theorem dX6_wavelengthsNeeded_21 : decode cX6_wavelengthsNeeded 21 = .ok (.iload_n 1, 1) := by decide +kernel
theorem dX6_wavelengthsNeeded_22 : decode cX6_wavelengthsNeeded 22 = .ok (.ishl, 1) := by decide +kernel
theorem dX6_wavelengthsNeeded_23 : decode cX6_wavelengthsNeeded 23 = .ok (.if_icmp .ge 106, 3) := by decide +kernel
theorem dX6_wavelengthsNeeded_26 : decode cX6_wavelengthsNeeded 26 = .ok (.aload_n 0, 1) := by decide +kernel
theorem dX6_wavelengthsNeeded_27 : decode cX6_wavelengthsNeeded 27 = .ok (.getfield 81, 3) := by decide +kernel
theorem dX6_wavelengthsNeeded_30 : decode cX6_wavelengthsNeeded 30 = .ok (.iload_n 2, 1) := by decide +kernel
theorem dX6_wavelengthsNeeded_31 : decode cX6_wavelengthsNeeded 31 = .ok (.aload_n 0, 1) := by decide +kernel
theorem dX6_wavelengthsNeeded_32 : decode cX6_wavelengthsNeeded 32 = .ok (.iload_n 2, 1) := by decide +kernel
theorem dX6_wavelengthsNeeded_33 : decode cX6_wavelengthsNeeded 33 = .ok (.iload_n 1, 1) := by decide +kernel
theorem dX6_wavelengthsNeeded_34 : decode cX6_wavelengthsNeeded 34 = .ok (.invokevirtual 243, 3) := by decide +kernel
theorem dX6_wavelengthsNeeded_37 : decode cX6_wavelengthsNeeded 37 = .ok (.ifCond .eq 7, 3) := by decide +kernel
theorem dX6_wavelengthsNeeded_40 : decode cX6_wavelengthsNeeded 40 = .ok (.iconst 1, 1) := by decide +kernel
theorem dX6_wavelengthsNeeded_41 : decode cX6_wavelengthsNeeded 41 = .ok (.goto 6, 3) := by decide +kernel
theorem dX6_wavelengthsNeeded_44 : decode cX6_wavelengthsNeeded 44 = .ok (.sipush 1000, 3) := by decide +kernel
theorem dX6_wavelengthsNeeded_47 : decode cX6_wavelengthsNeeded 47 = .ok (.iastore, 1) := by decide +kernel
theorem dX6_wavelengthsNeeded_48 : decode cX6_wavelengthsNeeded 48 = .ok (.iload_n 2, 1) := by decide +kernel
theorem dX6_wavelengthsNeeded_49 : decode cX6_wavelengthsNeeded 49 = .ok (.iconst 1, 1) := by decide +kernel
theorem dX6_wavelengthsNeeded_50 : decode cX6_wavelengthsNeeded 50 = .ok (.isub, 1) := by decide +kernel
theorem dX6_wavelengthsNeeded_51 : decode cX6_wavelengthsNeeded 51 = .ok (.iload_n 2, 1) := by decide +kernel
theorem dX6_wavelengthsNeeded_52 : decode cX6_wavelengthsNeeded 52 = .ok (.iand, 1) := by decide +kernel
theorem dX6_wavelengthsNeeded_53 : decode cX6_wavelengthsNeeded 53 = .ok (.istore_n 3, 1) := by decide +kernel
theorem dX6_wavelengthsNeeded_54 : decode cX6_wavelengthsNeeded 54 = .ok (.iload_n 3, 1) := by decide +kernel
theorem dX6_wavelengthsNeeded_55 : decode cX6_wavelengthsNeeded 55 = .ok (.ifCond .le 68, 3) := by decide +kernel
theorem dX6_wavelengthsNeeded_58 : decode cX6_wavelengthsNeeded 58 = .ok (.aload_n 0, 1) := by decide +kernel
theorem dX6_wavelengthsNeeded_59 : decode cX6_wavelengthsNeeded 59 = .ok (.getfield 81, 3) := by decide +kernel
theorem dX6_wavelengthsNeeded_62 : decode cX6_wavelengthsNeeded 62 = .ok (.iload_n 3, 1) := by decide +kernel
theorem dX6_wavelengthsNeeded_63 : decode cX6_wavelengthsNeeded 63 = .ok (.iaload, 1) := by decide +kernel
theorem dX6_wavelengthsNeeded_64 : decode cX6_wavelengthsNeeded 64 = .ok (.iconst 1, 1) := by decide +kernel
theorem dX6_wavelengthsNeeded_65 : decode cX6_wavelengthsNeeded 65 = .ok (.if_icmp .ne 16, 3) := by decide +kernel
theorem dX6_wavelengthsNeeded_68 : decode cX6_wavelengthsNeeded 68 = .ok (.aload_n 0, 1) := by decide +kernel
theorem dX6_wavelengthsNeeded_69 : decode cX6_wavelengthsNeeded 69 = .ok (.getfield 81, 3) := by decide +kernel
theorem dX6_wavelengthsNeeded_72 : decode cX6_wavelengthsNeeded 72 = .ok (.iload_n 2, 1) := by decide +kernel
theorem dX6_wavelengthsNeeded_73 : decode cX6_wavelengthsNeeded 73 = .ok (.iload_n 3, 1) := by decide +kernel
theorem dX6_wavelengthsNeeded_74 : decode cX6_wavelengthsNeeded 74 = .ok (.ixor, 1) := by decide +kernel
theorem dX6_wavelengthsNeeded_75 : decode cX6_wavelengthsNeeded 75 = .ok (.iaload, 1) := by decide +kernel
theorem dX6_wavelengthsNeeded_76 : decode cX6_wavelengthsNeeded 76 = .ok (.iconst 1, 1) := by decide +kernel
theorem dX6_wavelengthsNeeded_77 : decode cX6_wavelengthsNeeded 77 = .ok (.iadd, 1) := by decide +kernel
theorem dX6_wavelengthsNeeded_78 : decode cX6_wavelengthsNeeded 78 = .ok (.goto 6, 3) := by decide +kernel
theorem dX6_wavelengthsNeeded_81 : decode cX6_wavelengthsNeeded 81 = .ok (.sipush 1000, 3) := by decide +kernel
theorem dX6_wavelengthsNeeded_84 : decode cX6_wavelengthsNeeded 84 = .ok (.istore 4, 2) := by decide +kernel
theorem dX6_wavelengthsNeeded_86 : decode cX6_wavelengthsNeeded 86 = .ok (.aload_n 0, 1) := by decide +kernel
theorem dX6_wavelengthsNeeded_87 : decode cX6_wavelengthsNeeded 87 = .ok (.getfield 81, 3) := by decide +kernel
theorem dX6_wavelengthsNeeded_90 : decode cX6_wavelengthsNeeded 90 = .ok (.iload_n 2, 1) := by decide +kernel
theorem dX6_wavelengthsNeeded_91 : decode cX6_wavelengthsNeeded 91 = .ok (.iload 4, 2) := by decide +kernel
theorem dX6_wavelengthsNeeded_93 : decode cX6_wavelengthsNeeded 93 = .ok (.aload_n 0, 1) := by decide +kernel
theorem dX6_wavelengthsNeeded_94 : decode cX6_wavelengthsNeeded 94 = .ok (.getfield 81, 3) := by decide +kernel
theorem dX6_wavelengthsNeeded_97 : decode cX6_wavelengthsNeeded 97 = .ok (.iload_n 2, 1) := by decide +kernel
theorem dX6_wavelengthsNeeded_98 : decode cX6_wavelengthsNeeded 98 = .ok (.iaload, 1) := by decide +kernel
theorem dX6_wavelengthsNeeded_99 : decode cX6_wavelengthsNeeded 99 = .ok (.if_icmp .ge 8, 3) := by decide +kernel
theorem dX6_wavelengthsNeeded_102 : decode cX6_wavelengthsNeeded 102 = .ok (.iload 4, 2) := by decide +kernel
theorem dX6_wavelengthsNeeded_104 : decode cX6_wavelengthsNeeded 104 = .ok (.goto 9, 3) := by decide +kernel
theorem dX6_wavelengthsNeeded_107 : decode cX6_wavelengthsNeeded 107 = .ok (.aload_n 0, 1) := by decide +kernel
theorem dX6_wavelengthsNeeded_108 : decode cX6_wavelengthsNeeded 108 = .ok (.getfield 81, 3) := by decide +kernel
theorem dX6_wavelengthsNeeded_111 : decode cX6_wavelengthsNeeded 111 = .ok (.iload_n 2, 1) := by decide +kernel
theorem dX6_wavelengthsNeeded_112 : decode cX6_wavelengthsNeeded 112 = .ok (.iaload, 1) := by decide +kernel
theorem dX6_wavelengthsNeeded_113 : decode cX6_wavelengthsNeeded 113 = .ok (.iastore, 1) := by decide +kernel
theorem dX6_wavelengthsNeeded_114 : decode cX6_wavelengthsNeeded 114 = .ok (.iload_n 3, 1) := by decide +kernel
theorem dX6_wavelengthsNeeded_115 : decode cX6_wavelengthsNeeded 115 = .ok (.iconst 1, 1) := by decide +kernel
theorem dX6_wavelengthsNeeded_116 : decode cX6_wavelengthsNeeded 116 = .ok (.isub, 1) := by decide +kernel
theorem dX6_wavelengthsNeeded_117 : decode cX6_wavelengthsNeeded 117 = .ok (.iload_n 2, 1) := by decide +kernel
theorem dX6_wavelengthsNeeded_118 : decode cX6_wavelengthsNeeded 118 = .ok (.iand, 1) := by decide +kernel
theorem dX6_wavelengthsNeeded_119 : decode cX6_wavelengthsNeeded 119 = .ok (.istore_n 3, 1) := by decide +kernel
theorem dX6_wavelengthsNeeded_120 : decode cX6_wavelengthsNeeded 120 = .ok (.goto (-66), 3) := by decide +kernel
theorem dX6_wavelengthsNeeded_123 : decode cX6_wavelengthsNeeded 123 = .ok (.iinc 2 1, 3) := by decide +kernel
theorem dX6_wavelengthsNeeded_126 : decode cX6_wavelengthsNeeded 126 = .ok (.goto (-107), 3) := by decide +kernel
theorem dX6_wavelengthsNeeded_129 : decode cX6_wavelengthsNeeded 129 = .ok (.aload_n 0, 1) := by decide +kernel
theorem dX6_wavelengthsNeeded_130 : decode cX6_wavelengthsNeeded 130 = .ok (.getfield 81, 3) := by decide +kernel
theorem dX6_wavelengthsNeeded_133 : decode cX6_wavelengthsNeeded 133 = .ok (.iconst 1, 1) := by decide +kernel
theorem dX6_wavelengthsNeeded_134 : decode cX6_wavelengthsNeeded 134 = .ok (.iload_n 1, 1) := by decide +kernel
theorem dX6_wavelengthsNeeded_135 : decode cX6_wavelengthsNeeded 135 = .ok (.ishl, 1) := by decide +kernel
theorem dX6_wavelengthsNeeded_136 : decode cX6_wavelengthsNeeded 136 = .ok (.iconst 1, 1) := by decide +kernel
theorem dX6_wavelengthsNeeded_137 : decode cX6_wavelengthsNeeded 137 = .ok (.isub, 1) := by decide +kernel
theorem dX6_wavelengthsNeeded_138 : decode cX6_wavelengthsNeeded 138 = .ok (.iaload, 1) := by decide +kernel
theorem dX6_wavelengthsNeeded_139 : decode cX6_wavelengthsNeeded 139 = .ok (.ireturn, 1) := by decide +kernel
theorem dJ6_bitCount_0f7a4_0 : decode cJ6_bitCount_0f7a4 0 = .ok (.iload_n 0, 1) := by decide +kernel
theorem dJ6_bitCount_0f7a4_1 : decode cJ6_bitCount_0f7a4 1 = .ok (.iload_n 0, 1) := by decide +kernel
theorem dJ6_bitCount_0f7a4_2 : decode cJ6_bitCount_0f7a4 2 = .ok (.iconst 1, 1) := by decide +kernel
theorem dJ6_bitCount_0f7a4_3 : decode cJ6_bitCount_0f7a4 3 = .ok (.iushr, 1) := by decide +kernel
theorem dJ6_bitCount_0f7a4_4 : decode cJ6_bitCount_0f7a4 4 = .ok (.ldc_w 265, 3) := by decide +kernel
theorem dJ6_bitCount_0f7a4_7 : decode cJ6_bitCount_0f7a4 7 = .ok (.iand, 1) := by decide +kernel
theorem dJ6_bitCount_0f7a4_8 : decode cJ6_bitCount_0f7a4 8 = .ok (.isub, 1) := by decide +kernel
theorem dJ6_bitCount_0f7a4_9 : decode cJ6_bitCount_0f7a4 9 = .ok (.istore_n 0, 1) := by decide +kernel
theorem dJ6_bitCount_0f7a4_10 : decode cJ6_bitCount_0f7a4 10 = .ok (.iload_n 0, 1) := by decide +kernel
theorem dJ6_bitCount_0f7a4_11 : decode cJ6_bitCount_0f7a4 11 = .ok (.ldc_w 266, 3) := by decide +kernel
theorem dJ6_bitCount_0f7a4_14 : decode cJ6_bitCount_0f7a4 14 = .ok (.iand, 1) := by decide +kernel
theorem dJ6_bitCount_0f7a4_15 : decode cJ6_bitCount_0f7a4 15 = .ok (.iload_n 0, 1) := by decide +kernel
theorem dJ6_bitCount_0f7a4_16 : decode cJ6_bitCount_0f7a4 16 = .ok (.iconst 2, 1) := by decide +kernel
theorem dJ6_bitCount_0f7a4_17 : decode cJ6_bitCount_0f7a4 17 = .ok (.iushr, 1) := by decide +kernel
theorem dJ6_bitCount_0f7a4_18 : decode cJ6_bitCount_0f7a4 18 = .ok (.ldc_w 266, 3) := by decide +kernel
theorem dJ6_bitCount_0f7a4_21 : decode cJ6_bitCount_0f7a4 21 = .ok (.iand, 1) := by decide +kernel
theorem dJ6_bitCount_0f7a4_22 : decode cJ6_bitCount_0f7a4 22 = .ok (.iadd, 1) := by decide +kernel
theorem dJ6_bitCount_0f7a4_23 : decode cJ6_bitCount_0f7a4 23 = .ok (.istore_n 0, 1) := by decide +kernel
theorem dJ6_bitCount_0f7a4_24 : decode cJ6_bitCount_0f7a4 24 = .ok (.iload_n 0, 1) := by decide +kernel
theorem dJ6_bitCount_0f7a4_25 : decode cJ6_bitCount_0f7a4 25 = .ok (.iload_n 0, 1) := by decide +kernel
theorem dJ6_bitCount_0f7a4_26 : decode cJ6_bitCount_0f7a4 26 = .ok (.iconst 4, 1) := by decide +kernel
theorem dJ6_bitCount_0f7a4_27 : decode cJ6_bitCount_0f7a4 27 = .ok (.iushr, 1) := by decide +kernel
theorem dJ6_bitCount_0f7a4_28 : decode cJ6_bitCount_0f7a4 28 = .ok (.iadd, 1) := by decide +kernel
theorem dJ6_bitCount_0f7a4_29 : decode cJ6_bitCount_0f7a4 29 = .ok (.ldc_w 267, 3) := by decide +kernel
theorem dJ6_bitCount_0f7a4_32 : decode cJ6_bitCount_0f7a4 32 = .ok (.iand, 1) := by decide +kernel
theorem dJ6_bitCount_0f7a4_33 : decode cJ6_bitCount_0f7a4 33 = .ok (.istore_n 0, 1) := by decide +kernel
theorem dJ6_bitCount_0f7a4_34 : decode cJ6_bitCount_0f7a4 34 = .ok (.iload_n 0, 1) := by decide +kernel
theorem dJ6_bitCount_0f7a4_35 : decode cJ6_bitCount_0f7a4 35 = .ok (.iload_n 0, 1) := by decide +kernel
theorem dJ6_bitCount_0f7a4_36 : decode cJ6_bitCount_0f7a4 36 = .ok (.bipush 8, 2) := by decide +kernel
theorem dJ6_bitCount_0f7a4_38 : decode cJ6_bitCount_0f7a4 38 = .ok (.iushr, 1) := by decide +kernel
theorem dJ6_bitCount_0f7a4_39 : decode cJ6_bitCount_0f7a4 39 = .ok (.iadd, 1) := by decide +kernel
theorem dJ6_bitCount_0f7a4_40 : decode cJ6_bitCount_0f7a4 40 = .ok (.istore_n 0, 1) := by decide +kernel
theorem dJ6_bitCount_0f7a4_41 : decode cJ6_bitCount_0f7a4 41 = .ok (.iload_n 0, 1) := by decide +kernel
theorem dJ6_bitCount_0f7a4_42 : decode cJ6_bitCount_0f7a4 42 = .ok (.iload_n 0, 1) := by decide +kernel
theorem dJ6_bitCount_0f7a4_43 : decode cJ6_bitCount_0f7a4 43 = .ok (.bipush 16, 2) := by decide +kernel
theorem dJ6_bitCount_0f7a4_45 : decode cJ6_bitCount_0f7a4 45 = .ok (.iushr, 1) := by decide +kernel
theorem dJ6_bitCount_0f7a4_46 : decode cJ6_bitCount_0f7a4 46 = .ok (.iadd, 1) := by decide +kernel
theorem dJ6_bitCount_0f7a4_47 : decode cJ6_bitCount_0f7a4 47 = .ok (.istore_n 0, 1) := by decide +kernel
theorem dJ6_bitCount_0f7a4_48 : decode cJ6_bitCount_0f7a4 48 = .ok (.iload_n 0, 1) := by decide +kernel
theorem dJ6_bitCount_0f7a4_49 : decode cJ6_bitCount_0f7a4 49 = .ok (.bipush 63, 2) := by decide +kernel
theorem dJ6_bitCount_0f7a4_51 : decode cJ6_bitCount_0f7a4 51 = .ok (.iand, 1) := by decide +kernel
theorem dJ6_bitCount_0f7a4_52 : decode cJ6_bitCount_0f7a4 52 = .ok (.ireturn, 1) := by decide +kernel
theorem dJ9_max_7cf53_0 : decode cJ9_max_7cf53 0 = .ok (.iload_n 0, 1) := by decide +kernel
theorem dJ9_max_7cf53_1 : decode cJ9_max_7cf53 1 = .ok (.iload_n 1, 1) := by decide +kernel
theorem dJ9_max_7cf53_2 : decode cJ9_max_7cf53 2 = .ok (.if_icmp .lt 7, 3) := by decide +kernel
theorem dJ9_max_7cf53_5 : decode cJ9_max_7cf53 5 = .ok (.iload_n 0, 1) := by decide +kernel
theorem dJ9_max_7cf53_6 : decode cJ9_max_7cf53 6 = .ok (.goto 4, 3) := by decide +kernel
theorem dJ9_max_7cf53_9 : decode cJ9_max_7cf53 9 = .ok (.iload_n 1, 1) := by decide +kernel
theorem dJ9_max_7cf53_10 : decode cJ9_max_7cf53 10 = .ok (.ireturn, 1) := by decide +kernel
