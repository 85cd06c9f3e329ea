theorem wsL_law_x0 : ∀ w ∈ (vx_atS RX5 52 "java/lang/IllegalArgumentException" ["java/lang/RuntimeException", "java/lang/Exception"]).filter goodWord, w ∈ lw_tbl := by decide +kernel
theorem wsL_law_x1 : ∀ w ∈ (vx_atS RX5 80 "java/lang/IllegalStateException" ["java/lang/RuntimeException", "java/lang/Exception"]).filter goodWord, w ∈ lw_tbl := by decide +kernel
theorem wsL_law_x2 : ∀ w ∈ (vx_atS RX5 202 "java/lang/IndexOutOfBoundsException" ["java/lang/RuntimeException", "java/lang/Exception"]).filter goodWord, w ∈ lw_tbl := by decide +kernel
theorem wsL_law_in : ∀ w ∈ wsL_law, w ∈ lw_tbl := fun w h => (List.mem_append.mp h).elim (fun h => (List.mem_append.mp h).elim (fun h => (List.mem_append.mp h).elim (fun h => wsL_law_in0 w h) (fun h => wsL_law_x0 w h)) (fun h => wsL_law_x1 w h)) (fun h => wsL_law_x2 w h)
theorem inlX0 : ∀ w ∈ wsX00, w ∈ wsL_law := fun _ h => List.mem_append_left _ (List.mem_append_left _ (List.mem_append_left _ (List.mem_append_left _ (List.mem_append_left _ (List.mem_append_left _ (List.mem_append_right _ h))))))
theorem inX0 : ∀ w ∈ wsX00, w ∈ lw_tbl := fun w h => wsL_law_in w (inlX0 w h)
theorem inlX1 : ∀ w ∈ wsX10, w ∈ wsL_law := fun _ h => List.mem_append_left _ (List.mem_append_left _ (List.mem_append_left _ (List.mem_append_left _ (List.mem_append_left _ (List.mem_append_right _ h)))))
theorem inX1 : ∀ w ∈ wsX10, w ∈ lw_tbl := fun w h => wsL_law_in w (inlX1 w h)
theorem inlX2 : ∀ w ∈ wsX20, w ∈ wsL_law := fun _ h => List.mem_append_left _ (List.mem_append_left _ (List.mem_append_left _ (List.mem_append_left _ (List.mem_append_left _ (List.mem_append_left _ (List.mem_append_left _ (List.mem_append_left _ (List.mem_append_right _ h))))))))
theorem inX2 : ∀ w ∈ wsX20, w ∈ lw_tbl := fun w h => wsL_law_in w (inlX2 w h)
theorem inlX3 : ∀ w ∈ wsX30, w ∈ wsL_law := fun _ h => List.mem_append_left _ (List.mem_append_left _ (List.mem_append_left _ (List.mem_append_left _ (List.mem_append_right _ h))))
theorem inX3 : ∀ w ∈ wsX30, w ∈ lw_tbl := fun w h => wsL_law_in w (inlX3 w h)
theorem inlX4 : ∀ w ∈ wsX40, w ∈ wsL_law := fun _ h => List.mem_append_left _ (List.mem_append_left _ (List.mem_append_left _ (List.mem_append_left _ (List.mem_append_left _ (List.mem_append_left _ (List.mem_append_left _ (List.mem_append_right _ h)))))))
theorem inX4 : ∀ w ∈ wsX40, w ∈ lw_tbl := fun w h => wsL_law_in w (inlX4 w h)
theorem inlX5 : ∀ w ∈ wsX50, w ∈ wsL_law := fun _ h => List.mem_append_left _ (List.mem_append_left _ (List.mem_append_left _ (List.mem_append_left _ (List.mem_append_left _ (List.mem_append_left _ (List.mem_append_left _ (List.mem_append_left _ (List.mem_append_left _ (List.mem_append_right _ h)))))))))
theorem inX5 : ∀ w ∈ wsX50, w ∈ lw_tbl := fun w h => wsL_law_in w (inlX5 w h)
theorem inX6 : ∀ w ∈ wsX60, w ∈ lw_tbl := by decide +kernel
theorem inJ6 : ∀ w ∈ wsJ60, w ∈ lw_tbl := by decide +kernel
theorem inJ9 : ∀ w ∈ wsJ90, w ∈ lw_tbl := by decide +kernel
theorem inJ0 : ∀ w ∈ wsJ00, w ∈ lw_tbl := by decide +kernel
theorem dL_cell_0 : decode cL_cell 0 = .ok (.iload_n 1, 1) := by decide +kernel
theorem dL_cell_1 : decode cL_cell 1 = .ok (.aload_n 0, 1) := by decide +kernel
theorem dL_cell_2 : decode cL_cell 2 = .ok (.arraylength, 1) := by decide +kernel
theorem dL_cell_3 : decode cL_cell 3 = .ok (.if_icmp .ge 9, 3) := by decide +kernel
theorem dL_cell_6 : decode cL_cell 6 = .ok (.aload_n 0, 1) := by decide +kernel
theorem dL_cell_7 : decode cL_cell 7 = .ok (.iload_n 1, 1) := by decide +kernel
theorem dL_cell_8 : decode cL_cell 8 = .ok (.iaload, 1) := by decide +kernel
theorem dL_cell_9 : decode cL_cell 9 = .ok (.goto 18, 3) := by decide +kernel
theorem dL_cell_12 : decode cL_cell 12 = .ok (.sipush 7919, 3) := by decide +kernel
theorem dL_cell_15 : decode cL_cell 15 = .ok (.iload_n 1, 1) := by decide +kernel
theorem dL_cell_16 : decode cL_cell 16 = .ok (.sipush 151, 3) := by decide +kernel
theorem dL_cell_19 : decode cL_cell 19 = .ok (.iadd, 1) := by decide +kernel
theorem dL_cell_20 : decode cL_cell 20 = .ok (.imul, 1) := by decide +kernel
theorem dL_cell_21 : decode cL_cell 21 = .ok (.iload_n 1, 1) := by decide +kernel
theorem dL_cell_22 : decode cL_cell 22 = .ok (.sipush 2347, 3) := by decide +kernel
theorem dL_cell_25 : decode cL_cell 25 = .ok (.iadd, 1) := by decide +kernel
theorem dL_cell_26 : decode cL_cell 26 = .ok (.imul, 1) := by decide +kernel
theorem dL_cell_27 : decode cL_cell 27 = .ok (.ireturn, 1) := by decide +kernel
theorem dL_low_0 : decode cL_low 0 = .ok (.iload_n 0, 1) := by decide +kernel
theorem dL_low_1 : decode cL_low 1 = .ok (.ldc 7, 2) := by decide +kernel
theorem dL_low_3 : decode cL_low 3 = .ok (.iand, 1) := by decide +kernel
theorem dL_low_4 : decode cL_low 4 = .ok (.iload_n 1, 1) := by decide +kernel
theorem dL_low_5 : decode cL_low 5 = .ok (.irem, 1) := by decide +kernel
theorem dL_low_6 : decode cL_low 6 = .ok (.ireturn, 1) := by decide +kernel
set_option maxRecDepth 200000 in
theorem ggL_add_X5_addFibre : GoodIn wsL_add wsX5_addFibre := goodIn_ca (goodIn_ca (goodIn_r _ [8, 9, 10, 11, 12, 13, 14, 15, 16, 7, 17, 18, 19, 20, 21, 22, 23, 24, 25, 26, 27, 28, 29, 30, 31, 32, 33, 34, 35, 36, 37, 38, 39, 40, 41, 42, 43, 44, 45, 46, 47] rfl (by decide +kernel)) (goodIn_sub (fun _ h => List.mem_cons_of_mem _ (List.mem_append_left _ (List.mem_append_right _ h))) (by decide +kernel))) (goodIn_sub (fun _ h => List.mem_cons_of_mem _ (List.mem_append_right _ h)) (by decide +kernel))
set_option maxRecDepth 200000 in
theorem gL_add_X5_addFibre : GoodIn wsL_add (wsV RL 8 RX5 yX5_addFibre wsX5_addFibre) := goodIn_app (goodIn_of _ (by decide +kernel)) ggL_add_X5_addFibre
theorem dL_add_0 : decode cL_add 0 = .ok (.aload_n 0, 1) := by decide +kernel
theorem dL_add_1 : decode cL_add 1 = .ok (.iload_n 1, 1) := by decide +kernel
theorem dL_add_2 : decode cL_add 2 = .ok (.iload_n 2, 1) := by decide +kernel
theorem dL_add_3 : decode cL_add 3 = .ok (.iload_n 3, 1) := by decide +kernel
theorem dL_add_4 : decode cL_add 4 = .ok (.invokevirtual 8, 3) := by decide +kernel
theorem dL_add_7 : decode cL_add 7 = .ok (.ireturn, 1) := by decide +kernel
theorem dL_add_8 : decode cL_add 8 = .ok (.astore 4, 2) := by decide +kernel
theorem dL_add_10 : decode cL_add 10 = .ok (.ldc 16, 2) := by decide +kernel
theorem dL_add_12 : decode cL_add 12 = .ok (.ireturn, 1) := by decide +kernel
theorem dL_add_13 : decode cL_add 13 = .ok (.astore 4, 2) := by decide +kernel
theorem dL_add_15 : decode cL_add 15 = .ok (.ldc 16, 2) := by decide +kernel
theorem dL_add_17 : decode cL_add 17 = .ok (.ireturn, 1) := by decide +kernel
set_option maxRecDepth 200000 in
theorem ggL_ask_X5_request : GoodIn wsL_ask wsX5_request := goodIn_ca (goodIn_ca (goodIn_r _ [8, 9, 10, 11, 12, 13, 14, 15, 16, 17, 18, 19, 7, 20, 21, 22, 23, 24, 25, 26, 27, 28, 29, 30, 31, 32, 33, 34, 35, 36, 37, 38, 39, 40, 41, 42, 43, 44, 45, 46, 47, 48, 49, 50, 51, 52, 53, 54, 55, 56, 57, 58, 59, 60, 61, 62, 63, 64, 65, 66, 67, 68, 69, 70, 71, 72, 73, 74, 75, 76, 77, 78, 79, 80, 81, 82, 83, 84, 85, 86, 87, 88, 89, 90, 91, 92, 93, 94, 95, 96, 97, 98, 99, 100, 101, 102, 103, 104, 105, 106, 107, 108, 109, 110, 111, 112, 113, 114, 115, 116, 117, 118, 119, 120, 121, 122, 123, 124, 125, 126, 127, 128, 129, 130, 131, 132, 133, 134, 135, 136, 137, 138, 139, 140, 141, 142, 143, 144, 145, 146, 147, 148, 149, 150, 151, 152, 153, 154, 155, 156, 157, 158, 159, 160, 161, 162, 163, 164, 165, 166, 167, 168, 169, 170, 171, 172, 173, 174, 175, 176, 177, 178, 179, 180, 181, 182, 183, 184, 185, 186, 187, 188, 189, 190, 191, 192, 193, 194, 195, 196, 197, 198, 199, 200, 201, 202, 203, 204, 205, 206, 207, 208, 209, 210, 211, 212, 213, 214, 215, 216, 217, 218, 219, 220, 221, 222, 223, 224, 225, 226, 227, 228, 229, 230, 231, 232, 233, 234, 235, 236, 237, 238, 239, 240, 241, 242, 243, 244, 245, 246, 247, 248, 249, 250, 251, 252, 253, 254, 255] rfl (by decide +kernel)) (goodIn_sub (fun _ h => List.mem_cons_of_mem _ (List.mem_append_left _ (List.mem_append_right _ h))) (by decide +kernel))) (goodIn_sub (fun _ h => List.mem_cons_of_mem _ (List.mem_append_right _ h)) (by decide +kernel))
set_option maxRecDepth 200000 in
theorem gL_ask_X5_request : GoodIn wsL_ask (wsV RL 19 RX5 yX5_request wsX5_request) := goodIn_app (goodIn_of _ (by decide +kernel)) ggL_ask_X5_request
theorem dL_ask_0 : decode cL_ask 0 = .ok (.aload_n 0, 1) := by decide +kernel
theorem dL_ask_1 : decode cL_ask 1 = .ok (.iload_n 1, 1) := by decide +kernel
theorem dL_ask_2 : decode cL_ask 2 = .ok (.iload_n 2, 1) := by decide +kernel
theorem dL_ask_3 : decode cL_ask 3 = .ok (.iload_n 3, 1) := by decide +kernel
theorem dL_ask_4 : decode cL_ask 4 = .ok (.iload 4, 2) := by decide +kernel
theorem dL_ask_6 : decode cL_ask 6 = .ok (.invokevirtual 19, 3) := by decide +kernel
theorem dL_ask_9 : decode cL_ask 9 = .ok (.ireturn, 1) := by decide +kernel
theorem dL_ask_10 : decode cL_ask 10 = .ok (.astore 5, 2) := by decide +kernel
theorem dL_ask_12 : decode cL_ask 12 = .ok (.ldc 16, 2) := by decide +kernel
theorem dL_ask_14 : decode cL_ask 14 = .ok (.ireturn, 1) := by decide +kernel
theorem dL_ask_15 : decode cL_ask 15 = .ok (.astore 5, 2) := by decide +kernel
theorem dL_ask_17 : decode cL_ask 17 = .ok (.ldc 16, 2) := by decide +kernel
theorem dL_ask_19 : decode cL_ask 19 = .ok (.ireturn, 1) := by decide +kernel
set_option maxRecDepth 200000 in
theorem ggL_newLength_X5_newLength : GoodIn wsL_newLength wsX5_newLength := goodIn_ca (goodIn_ca (goodIn_r _ [8, 9, 10, 11, 12, 13, 14, 15, 16, 17, 18, 19, 7, 20, 21, 22, 23, 24, 25, 26, 27, 28, 29, 30, 31, 32, 33, 34, 35, 36, 37, 38, 39, 40, 41, 42, 43, 44, 45, 46, 47, 48, 49, 50, 51, 52, 53, 54, 55, 56, 57, 58, 59, 60, 61, 62, 63, 64, 65, 66, 67, 68, 69, 70, 71, 72, 73, 74, 75, 76, 77, 78, 79, 80, 81, 82, 83, 84, 85, 86, 87, 88, 89, 90, 91, 92, 93, 94, 95, 96, 97, 98, 99, 100, 101, 102, 103, 104, 105, 106, 107, 108, 109, 110, 111, 112, 113, 114, 115, 116, 117, 118, 119, 120, 121, 122, 123, 124, 125, 126, 127, 128, 129, 130, 131, 132, 133, 134, 135, 136, 137, 138, 139, 140, 141, 142, 143, 144, 145, 146, 147, 148, 149, 150, 151, 152, 153, 154, 155, 156, 157, 158, 159, 160, 161, 162, 163, 164, 165, 166, 167, 168, 169, 170, 171, 172, 173, 174, 175, 176, 177, 178, 179, 180, 181, 182, 183, 184, 185, 186, 187, 188, 189, 190, 191, 192, 193, 194, 195, 196, 197, 198, 199, 200, 201, 202, 203, 204, 205, 206, 207, 208, 209, 210, 211, 212, 213, 214, 215, 216, 217, 218] rfl (by decide +kernel)) (goodIn_sub (fun _ h => List.mem_cons_of_mem _ (List.mem_append_left _ (List.mem_append_right _ h))) (by decide +kernel))) (goodIn_sub (fun _ h => List.mem_cons_of_mem _ (List.mem_append_right _ h)) (by decide +kernel))
set_option maxRecDepth 200000 in
theorem gL_newLength_X5_newLength : GoodIn wsL_newLength (wsV RL 23 RX5 yX5_newLength wsX5_newLength) := goodIn_app (goodIn_of _ (by decide +kernel)) ggL_newLength_X5_newLength
theorem dL_newLength_0 : decode cL_newLength 0 = .ok (.aload_n 0, 1) := by decide +kernel
theorem dL_newLength_1 : decode cL_newLength 1 = .ok (.iload_n 1, 1) := by decide +kernel
theorem dL_newLength_2 : decode cL_newLength 2 = .ok (.iload_n 2, 1) := by decide +kernel
theorem dL_newLength_3 : decode cL_newLength 3 = .ok (.iload_n 3, 1) := by decide +kernel
theorem dL_newLength_4 : decode cL_newLength 4 = .ok (.invokevirtual 23, 3) := by decide +kernel
theorem dL_newLength_7 : decode cL_newLength 7 = .ok (.ireturn, 1) := by decide +kernel
theorem dL_newLength_8 : decode cL_newLength 8 = .ok (.astore 4, 2) := by decide +kernel
theorem dL_newLength_10 : decode cL_newLength 10 = .ok (.ldc 16, 2) := by decide +kernel
theorem dL_newLength_12 : decode cL_newLength 12 = .ok (.ireturn, 1) := by decide +kernel
theorem dL_newLength_13 : decode cL_newLength 13 = .ok (.astore 4, 2) := by decide +kernel
theorem dL_newLength_15 : decode cL_newLength 15 = .ok (.ldc 16, 2) := by decide +kernel
theorem dL_newLength_17 : decode cL_newLength 17 = .ok (.ireturn, 1) := by decide +kernel
set_option maxRecDepth 200000 in
theorem ggL_does_X5_cut : GoodIn wsL_does wsX5_cut := goodIn_ca (goodIn_ca (goodIn_r _ [8, 9, 10, 11, 12, 13, 14, 15, 7, 16, 17, 18, 19, 20, 21, 22, 23, 24, 25, 26, 27, 28, 29, 30, 31, 32, 33, 34, 35, 36, 37, 38, 39, 40, 41, 42, 43, 44, 45, 46, 47, 48, 49, 239, 240, 241, 242, 243, 244, 245, 246, 247, 248, 249, 250, 251, 252, 253, 254, 255, 256, 257, 258, 259, 260, 261, 262, 263, 264, 265, 266] rfl (by decide +kernel)) (goodIn_sub (fun _ h => List.mem_cons_of_mem _ (List.mem_append_left _ (List.mem_append_right _ h))) (by decide +kernel))) (goodIn_sub (fun _ h => List.mem_cons_of_mem _ (List.mem_append_right _ h)) (by decide +kernel))
set_option maxRecDepth 200000 in
theorem gL_does_X5_cut : GoodIn wsL_does (wsV RL 26 RX5 yX5_cut wsX5_cut) := goodIn_app (goodIn_of _ (by decide +kernel)) ggL_does_X5_cut
set_option maxRecDepth 200000 in
theorem ggL_does_X5_repair : GoodIn wsL_does wsX5_repair := goodIn_ca (goodIn_ca (goodIn_r _ [53, 9, 10, 11, 12, 13, 14, 15, 7, 16, 17, 18, 19, 20, 21, 22, 23, 24, 25, 26, 27, 28, 29, 30, 31, 32, 33, 34, 35, 36, 37, 38, 39, 40, 41, 42, 43, 44, 45, 46, 47, 48, 49, 239, 240, 241, 242, 243, 244, 245, 246, 247, 248, 249, 250, 251, 252, 253, 254, 255, 256, 257, 258, 259, 260, 261, 262, 263, 264, 265, 266] rfl (by decide +kernel)) (goodIn_sub (fun _ h => List.mem_cons_of_mem _ (List.mem_append_left _ (List.mem_append_right _ h))) (by decide +kernel))) (goodIn_sub (fun _ h => List.mem_cons_of_mem _ (List.mem_append_right _ h)) (by decide +kernel))
set_option maxRecDepth 200000 in
theorem gL_does_X5_repair : GoodIn wsL_does (wsV RL 30 RX5 yX5_repair wsX5_repair) := goodIn_app (goodIn_of _ (by decide +kernel)) ggL_does_X5_repair
set_option maxRecDepth 200000 in
theorem ggL_does_X5_release : GoodIn wsL_does wsX5_release := goodIn_ca (goodIn_ca (goodIn_r _ [57, 58, 59, 60, 61, 62, 63, 7, 64, 17, 18, 9, 10, 65, 239, 240, 241, 242, 243, 244, 245, 246, 255, 256, 257, 258, 259, 260, 261] rfl (by decide +kernel)) (goodIn_sub (fun _ h => List.mem_cons_of_mem _ (List.mem_append_right _ h)) (by decide +kernel))) (goodIn_sub (fun _ h => List.mem_cons_of_mem _ (List.mem_append_left _ (List.mem_append_right _ h))) (by decide +kernel))
set_option maxRecDepth 200000 in
theorem gL_does_X5_release : GoodIn wsL_does (wsV RL 33 RX5 yX5_release wsX5_release) := goodIn_app (goodIn_of _ (by decide +kernel)) ggL_does_X5_release
set_option maxRecDepth 200000 in
theorem ggL_does_X5_lightOf : GoodIn wsL_does wsX5_lightOf := goodIn_ca (goodIn_ca (goodIn_r _ [69, 70, 61, 62, 63, 7, 64, 17, 18, 9, 10, 65, 58, 255, 256, 257, 258, 259, 260, 261, 239, 240, 241, 242, 243, 244, 245, 246] rfl (by decide +kernel)) (goodIn_sub (fun _ h => List.mem_cons_of_mem _ (List.mem_append_right _ h)) (by decide +kernel))) (goodIn_sub (fun _ h => List.mem_cons_of_mem _ (List.mem_append_left _ (List.mem_append_right _ h))) (by decide +kernel))
set_option maxRecDepth 200000 in
theorem gL_does_X5_lightOf : GoodIn wsL_does (wsV RL 36 RX5 yX5_lightOf wsX5_lightOf) := goodIn_app (goodIn_of _ (by decide +kernel)) ggL_does_X5_lightOf
set_option maxRecDepth 200000 in
theorem ggL_does_X5_reroute : GoodIn wsL_does wsX5_reroute := goodIn_ca (goodIn_ca (goodIn_r _ [74, 9, 10, 75, 76, 77, 78, 79, 80, 81, 82, 83, 84, 7, 85, 17, 18, 34, 35, 86, 46, 47, 39, 48, 49, 87, 88, 89, 90, 11, 91, 92, 19, 20, 21, 22, 23, 24, 25, 26, 27, 28, 29, 93, 94, 95, 96, 97, 98, 99, 100, 41, 43, 44, 45, 101, 102, 103, 104, 105, 106, 107, 108, 109, 110, 111, 112, 113, 114, 115, 116, 117, 118, 119, 120, 121, 122, 123, 124, 125, 126, 127, 128, 129, 130, 131, 132, 133, 134, 135, 136, 137, 138, 139, 140, 141, 142, 143, 144, 145, 146, 147, 148, 149, 150, 151, 152, 153, 154, 155, 156, 157, 158, 159, 160, 161, 162, 163, 164, 165, 166, 167, 168, 169, 170, 171, 172, 173, 174, 175, 176, 177, 178, 179, 180, 181, 182, 183, 184, 185, 186, 187, 188, 189, 190, 191, 192, 193, 194, 195, 255, 256, 257, 258, 259, 260, 261, 239, 240, 241, 242, 243, 244, 245, 246, 267, 268, 269, 270, 271, 272, 273, 274, 275, 276, 277, 278, 279, 262, 263, 264, 265, 266, 247, 248, 249, 250, 251, 252, 253, 254] rfl (by decide +kernel)) (goodIn_sub (fun _ h => List.mem_cons_of_mem _ (List.mem_append_left _ (List.mem_append_right _ h))) (by decide +kernel))) (goodIn_sub (fun _ h => List.mem_cons_of_mem _ (List.mem_append_right _ h)) (by decide +kernel))
set_option maxRecDepth 200000 in
theorem gL_does_X5_reroute : GoodIn wsL_does (wsV RL 39 RX5 yX5_reroute wsX5_reroute) := goodIn_app (goodIn_of _ (by decide +kernel)) ggL_does_X5_reroute
set_option maxRecDepth 200000 in
theorem ggL_does_X5_merge : GoodIn wsL_does wsX5_merge := goodIn_ca (goodIn_r _ [199, 9, 10, 34, 35, 200, 201, 202, 7, 203, 11, 12, 75, 77, 78, 59, 36, 37, 38, 39, 40, 41, 42, 43, 44, 45, 46, 47, 48, 49, 204, 205, 206, 207, 208, 209, 210, 211, 212, 213, 65, 58, 239, 240, 241, 242, 243, 244, 245, 246, 247, 248, 249, 250, 251, 252, 253, 254, 255, 256, 257, 258, 259, 260, 261, 262, 263, 264, 265, 266] rfl (by decide +kernel)) (goodIn_sub (fun _ h => List.mem_cons_of_mem _ (List.mem_append_left _ (List.mem_append_right _ h))) (by decide +kernel))
set_option maxRecDepth 200000 in
theorem gL_does_X5_merge : GoodIn wsL_does (wsV RL 42 RX5 yX5_merge wsX5_merge) := goodIn_app (goodIn_of _ (by decide +kernel)) ggL_does_X5_merge
set_option maxRecDepth 200000 in
theorem ggL_does_X5_move : GoodIn wsL_does wsX5_move := goodIn_ca (goodIn_r _ [217, 9, 10, 34, 35, 218, 219, 220, 39, 221, 41, 43, 44, 45, 46, 47, 48, 49, 222, 223, 224, 7, 225, 226, 11, 227, 228, 108, 109, 104, 110, 111, 93, 94, 95, 96, 97, 98, 99, 100, 101, 102, 103, 105, 106, 107, 112, 113, 114, 115, 116, 229, 164, 165, 230, 231, 232, 233, 234, 235, 236, 237, 238, 239, 240, 241, 242, 243, 244, 245, 246, 255, 256, 257, 258, 259, 260, 261, 262, 263, 264, 265, 266, 247, 248, 249, 250, 251, 252, 253, 254] rfl (by decide +kernel)) (goodIn_sub (fun _ h => List.mem_cons_of_mem _ (List.mem_append_left _ (List.mem_append_right _ h))) (by decide +kernel))
set_option maxRecDepth 200000 in
theorem gL_does_X5_move : GoodIn wsL_does (wsV RL 46 RX5 yX5_move wsX5_move) := goodIn_app (goodIn_of _ (by decide +kernel)) ggL_does_X5_move
theorem dL_does_0 : decode cL_does 0 = .ok (.iload_n 1, 1) := by decide +kernel
theorem dL_does_1 : decode cL_does 1 = .ok (.ifCond .ne 11, 3) := by decide +kernel
theorem dL_does_4 : decode cL_does 4 = .ok (.aload_n 0, 1) := by decide +kernel
theorem dL_does_5 : decode cL_does 5 = .ok (.iload_n 2, 1) := by decide +kernel
theorem dL_does_6 : decode cL_does 6 = .ok (.invokevirtual 26, 3) := by decide +kernel
theorem dL_does_9 : decode cL_does 9 = .ok (.goto 71, 3) := by decide +kernel
theorem dL_does_12 : decode cL_does 12 = .ok (.iload_n 1, 1) := by decide +kernel
theorem dL_does_13 : decode cL_does 13 = .ok (.iconst 1, 1) := by decide +kernel
theorem dL_does_14 : decode cL_does 14 = .ok (.if_icmp .ne 11, 3) := by decide +kernel
theorem dL_does_17 : decode cL_does 17 = .ok (.aload_n 0, 1) := by decide +kernel
theorem dL_does_18 : decode cL_does 18 = .ok (.iload_n 2, 1) := by decide +kernel
theorem dL_does_19 : decode cL_does 19 = .ok (.invokevirtual 30, 3) := by decide +kernel
theorem dL_does_22 : decode cL_does 22 = .ok (.goto 58, 3) := by decide +kernel
theorem dL_does_25 : decode cL_does 25 = .ok (.iload_n 1, 1) := by decide +kernel
theorem dL_does_26 : decode cL_does 26 = .ok (.iconst 2, 1) := by decide +kernel
theorem dL_does_27 : decode cL_does 27 = .ok (.if_icmp .ne 11, 3) := by decide +kernel
theorem dL_does_30 : decode cL_does 30 = .ok (.aload_n 0, 1) := by decide +kernel
theorem dL_does_31 : decode cL_does 31 = .ok (.iload_n 2, 1) := by decide +kernel
theorem dL_does_32 : decode cL_does 32 = .ok (.invokevirtual 33, 3) := by decide +kernel
theorem dL_does_35 : decode cL_does 35 = .ok (.goto 45, 3) := by decide +kernel
theorem dL_does_38 : decode cL_does 38 = .ok (.iload_n 1, 1) := by decide +kernel
theorem dL_does_39 : decode cL_does 39 = .ok (.iconst 3, 1) := by decide +kernel
theorem dL_does_40 : decode cL_does 40 = .ok (.if_icmp .ne 11, 3) := by decide +kernel
theorem dL_does_43 : decode cL_does 43 = .ok (.aload_n 0, 1) := by decide +kernel
theorem dL_does_44 : decode cL_does 44 = .ok (.iload_n 2, 1) := by decide +kernel
theorem dL_does_45 : decode cL_does 45 = .ok (.invokevirtual 36, 3) := by decide +kernel
theorem dL_does_48 : decode cL_does 48 = .ok (.goto 32, 3) := by decide +kernel
theorem dL_does_51 : decode cL_does 51 = .ok (.iload_n 1, 1) := by decide +kernel
theorem dL_does_52 : decode cL_does 52 = .ok (.iconst 4, 1) := by decide +kernel
theorem dL_does_53 : decode cL_does 53 = .ok (.if_icmp .ne 11, 3) := by decide +kernel
theorem dL_does_56 : decode cL_does 56 = .ok (.aload_n 0, 1) := by decide +kernel
theorem dL_does_57 : decode cL_does 57 = .ok (.iload_n 2, 1) := by decide +kernel
theorem dL_does_58 : decode cL_does 58 = .ok (.invokevirtual 39, 3) := by decide +kernel
theorem dL_does_61 : decode cL_does 61 = .ok (.goto 19, 3) := by decide +kernel
theorem dL_does_64 : decode cL_does 64 = .ok (.iload_n 1, 1) := by decide +kernel
theorem dL_does_65 : decode cL_does 65 = .ok (.iconst 5, 1) := by decide +kernel
theorem dL_does_66 : decode cL_does 66 = .ok (.if_icmp .ne 10, 3) := by decide +kernel
theorem dL_does_69 : decode cL_does 69 = .ok (.aload_n 0, 1) := by decide +kernel
theorem dL_does_70 : decode cL_does 70 = .ok (.invokevirtual 42, 3) := by decide +kernel
theorem dL_does_73 : decode cL_does 73 = .ok (.goto 7, 3) := by decide +kernel
theorem dL_does_76 : decode cL_does 76 = .ok (.aload_n 0, 1) := by decide +kernel
theorem dL_does_77 : decode cL_does 77 = .ok (.invokevirtual 46, 3) := by decide +kernel
theorem dL_does_80 : decode cL_does 80 = .ok (.ireturn, 1) := by decide +kernel
theorem dL_does_81 : decode cL_does 81 = .ok (.astore_n 3, 1) := by decide +kernel
theorem dL_does_82 : decode cL_does 82 = .ok (.ldc 16, 2) := by decide +kernel
theorem dL_does_84 : decode cL_does 84 = .ok (.ireturn, 1) := by decide +kernel
theorem dL_does_85 : decode cL_does 85 = .ok (.astore_n 3, 1) := by decide +kernel
theorem dL_does_86 : decode cL_does 86 = .ok (.ldc 16, 2) := by decide +kernel
theorem dL_does_88 : decode cL_does 88 = .ok (.ireturn, 1) := by decide +kernel
set_option maxRecDepth 200000 in
theorem ggL_looks_X5_channels : GoodIn wsL_looks wsX5_channels := goodIn_ca (goodIn_r _ [8, 9, 10, 11, 12, 7, 13, 14, 15, 16, 17, 18, 19, 20, 21, 22, 23, 24, 25, 26, 27, 28, 29, 30, 31, 32, 33, 34, 78, 79, 80, 81, 82, 83, 84, 85, 86, 87, 88, 89, 90, 91, 92, 93, 94, 95, 96, 97] rfl (by decide +kernel)) (goodIn_sub (fun _ h => List.mem_cons_of_mem _ (List.mem_append_left _ (List.mem_append_right _ h))) (by decide +kernel))
set_option maxRecDepth 200000 in
theorem gL_looks_X5_channels : GoodIn wsL_looks (wsV RL 51 RX5 yX5_channels wsX5_channels) := goodIn_app (goodIn_of _ (by decide +kernel)) ggL_looks_X5_channels
set_option maxRecDepth 200000 in
theorem ggL_looks_X5_channel : GoodIn wsL_looks wsX5_channel := goodIn_ca (goodIn_r _ [38, 14, 15, 9, 10, 11, 12, 7, 13, 16, 17, 18, 19, 20, 21, 22, 23, 24, 25, 26, 27, 28, 29, 30, 31, 32, 33, 34, 39, 40, 41, 42, 43, 44, 45, 78, 79, 80, 81, 82, 83, 84, 85, 86, 87, 88, 89, 90, 91, 92, 93, 94, 95, 96, 97] rfl (by decide +kernel)) (goodIn_sub (fun _ h => List.mem_cons_of_mem _ (List.mem_append_left _ (List.mem_append_right _ h))) (by decide +kernel))
set_option maxRecDepth 200000 in
theorem gL_looks_X5_channel : GoodIn wsL_looks (wsV RL 55 RX5 yX5_channel wsX5_channel) := goodIn_app (goodIn_of _ (by decide +kernel)) ggL_looks_X5_channel
set_option maxRecDepth 200000 in
theorem ggL_looks_X5_lightOn : GoodIn wsL_looks wsX5_lightOn := goodIn_ca (goodIn_ca (goodIn_r _ [49, 50, 51, 52, 53, 20, 21, 54, 55, 56, 7, 57, 14, 15, 58, 59, 60, 61, 62, 63, 64, 65, 66, 25, 67, 27, 28, 29, 30, 31, 32, 33, 34, 68, 69, 70, 42, 71, 45, 72, 73, 74, 75, 76, 77, 40, 41, 43, 44, 83, 84, 85, 86, 87, 88, 89, 90, 98, 99, 100, 101, 102, 103, 104, 105, 91, 92, 93, 94, 95, 96, 97, 78, 79, 80, 81, 82] rfl (by decide +kernel)) (goodIn_sub (fun _ h => List.mem_cons_of_mem _ (List.mem_append_right _ h)) (by decide +kernel))) (goodIn_sub (fun _ h => List.mem_cons_of_mem _ (List.mem_append_left _ (List.mem_append_right _ h))) (by decide +kernel))
set_option maxRecDepth 200000 in
theorem gL_looks_X5_lightOn : GoodIn wsL_looks (wsV RL 58 RX5 yX5_lightOn wsX5_lightOn) := goodIn_app (goodIn_of _ (by decide +kernel)) ggL_looks_X5_lightOn
theorem dL_looks_0 : decode cL_looks 0 = .ok (.iload_n 1, 1) := by decide +kernel
theorem dL_looks_1 : decode cL_looks 1 = .ok (.ifCond .ne 12, 3) := by decide +kernel
theorem dL_looks_4 : decode cL_looks 4 = .ok (.aload_n 0, 1) := by decide +kernel
theorem dL_looks_5 : decode cL_looks 5 = .ok (.iload_n 2, 1) := by decide +kernel
theorem dL_looks_6 : decode cL_looks 6 = .ok (.iload_n 3, 1) := by decide +kernel
theorem dL_looks_7 : decode cL_looks 7 = .ok (.invokevirtual 51, 3) := by decide +kernel
theorem dL_looks_10 : decode cL_looks 10 = .ok (.goto 25, 3) := by decide +kernel
theorem dL_looks_13 : decode cL_looks 13 = .ok (.iload_n 1, 1) := by decide +kernel
theorem dL_looks_14 : decode cL_looks 14 = .ok (.iconst 1, 1) := by decide +kernel
theorem dL_looks_15 : decode cL_looks 15 = .ok (.if_icmp .ne 14, 3) := by decide +kernel
theorem dL_looks_18 : decode cL_looks 18 = .ok (.aload_n 0, 1) := by decide +kernel
theorem dL_looks_19 : decode cL_looks 19 = .ok (.iload_n 2, 1) := by decide +kernel
theorem dL_looks_20 : decode cL_looks 20 = .ok (.iload_n 3, 1) := by decide +kernel
theorem dL_looks_21 : decode cL_looks 21 = .ok (.iload 4, 2) := by decide +kernel
theorem dL_looks_23 : decode cL_looks 23 = .ok (.invokevirtual 55, 3) := by decide +kernel
theorem dL_looks_26 : decode cL_looks 26 = .ok (.goto 9, 3) := by decide +kernel
theorem dL_looks_29 : decode cL_looks 29 = .ok (.aload_n 0, 1) := by decide +kernel
theorem dL_looks_30 : decode cL_looks 30 = .ok (.iload_n 2, 1) := by decide +kernel
theorem dL_looks_31 : decode cL_looks 31 = .ok (.iload_n 3, 1) := by decide +kernel
theorem dL_looks_32 : decode cL_looks 32 = .ok (.invokevirtual 58, 3) := by decide +kernel
theorem dL_looks_35 : decode cL_looks 35 = .ok (.ireturn, 1) := by decide +kernel
theorem dL_looks_36 : decode cL_looks 36 = .ok (.astore 5, 2) := by decide +kernel
theorem dL_looks_38 : decode cL_looks 38 = .ok (.ldc 16, 2) := by decide +kernel
theorem dL_looks_40 : decode cL_looks 40 = .ok (.ireturn, 1) := by decide +kernel
theorem dL_looks_41 : decode cL_looks 41 = .ok (.astore 5, 2) := by decide +kernel
theorem dL_looks_43 : decode cL_looks 43 = .ok (.ldc 16, 2) := by decide +kernel
theorem dL_looks_45 : decode cL_looks 45 = .ok (.ireturn, 1) := by decide +kernel
set_option maxRecDepth 200000 in
theorem ggL_convert_X5_toggleConverter : GoodIn wsL_convert wsX5_toggleConverter := goodIn_ca (goodIn_r _ [7, 8, 9, 10, 11, 12, 13, 14, 15, 16, 17, 18, 19, 20, 21, 22, 23, 24, 25, 26, 27, 28, 29, 30, 31, 32, 33] rfl (by decide +kernel)) (goodIn_sub (fun _ h => List.mem_cons_of_mem _ (List.mem_append_right _ h)) (by decide +kernel))
set_option maxRecDepth 200000 in
theorem gL_convert_X5_toggleConverter : GoodIn wsL_convert (wsV RL 61 RX5 yX5_toggleConverter wsX5_toggleConverter) := goodIn_app (goodIn_of _ (by decide +kernel)) ggL_convert_X5_toggleConverter
theorem dL_convert_0 : decode cL_convert 0 = .ok (.aload_n 0, 1) := by decide +kernel
theorem dL_convert_1 : decode cL_convert 1 = .ok (.iload_n 1, 1) := by decide +kernel
theorem dL_convert_2 : decode cL_convert 2 = .ok (.invokevirtual 61, 3) := by decide +kernel
theorem dL_convert_5 : decode cL_convert 5 = .ok (.ifCond .eq 7, 3) := by decide +kernel
theorem dL_convert_8 : decode cL_convert 8 = .ok (.iconst 1, 1) := by decide +kernel
theorem dL_convert_9 : decode cL_convert 9 = .ok (.goto 4, 3) := by decide +kernel
theorem dL_convert_12 : decode cL_convert 12 = .ok (.iconst 0, 1) := by decide +kernel
theorem dL_convert_13 : decode cL_convert 13 = .ok (.ireturn, 1) := by decide +kernel
theorem dL_convert_14 : decode cL_convert 14 = .ok (.astore_n 2, 1) := by decide +kernel
theorem dL_convert_15 : decode cL_convert 15 = .ok (.ldc 16, 2) := by decide +kernel
theorem dL_convert_17 : decode cL_convert 17 = .ok (.ireturn, 1) := by decide +kernel
set_option maxRecDepth 200000 in
theorem ggL_act_L_low : GoodIn wsL_act wsL_low := goodIn_r _ [4, 5] rfl (by decide +kernel)
set_option maxRecDepth 200000 in
theorem gL_act_L_low : GoodIn wsL_act (va_wsS RL 65 yL_low wsL_low) := goodIn_app (goodIn_of _ (by decide +kernel)) ggL_act_L_low
set_option maxRecDepth 200000 in
theorem ggL_act_L_add : GoodIn wsL_act wsL_add := goodIn_ca (goodIn_ca (goodIn_r _ [8, 9, 10, 11, 12, 13, 14, 15, 16, 17, 18, 19, 20, 21, 22, 23, 24, 25, 26, 27, 28, 29, 30, 31, 32, 33, 34, 35, 36, 37, 38, 39, 335, 336, 337, 338, 339, 340, 341, 342, 343, 344, 345, 346, 347, 348, 349, 350] rfl (by decide +kernel)) (goodIn_sub (fun _ h => List.mem_cons_of_mem _ (List.mem_append_left _ (List.mem_append_left _ (List.mem_append_right _ h)))) (by decide +kernel))) (goodIn_sub (fun _ h => List.mem_cons_of_mem _ (List.mem_append_left _ (List.mem_append_right _ h))) (by decide +kernel))
set_option maxRecDepth 200000 in
theorem gL_act_L_add : GoodIn wsL_act (va_wsS RL 70 yL_add wsL_add) := goodIn_app (goodIn_of _ (by decide +kernel)) ggL_act_L_add
set_option maxRecDepth 200000 in
theorem ggL_act_L_ask : GoodIn wsL_act wsL_ask := goodIn_ca (goodIn_ca (goodIn_r _ [42, 9, 10, 11, 43, 44, 45, 15, 46, 17, 18, 19, 20, 47, 48, 49, 50, 22, 23, 24, 25, 21, 26, 27, 28, 29, 30, 31, 51, 52, 53, 54, 55, 56, 57, 58, 59, 60, 61, 62, 63, 64, 65, 66, 67, 68, 69, 70, 71, 72, 73, 74, 75, 76, 77, 78, 79, 80, 81, 82, 83, 84, 85, 86, 87, 88, 89, 90, 91, 92, 93, 94, 95, 96, 36, 97, 98, 99, 100, 101, 102, 103, 104, 105, 106, 107, 108, 109, 110, 111, 112, 113, 114, 115, 116, 117, 118, 119, 120, 121, 122, 123, 124, 125, 126, 127, 128, 129, 130, 131, 132, 133, 134, 135, 136, 137, 138, 139, 140, 141, 142, 143, 144, 145, 146, 147, 148, 149, 150, 151, 152, 153, 154, 155, 156, 157, 158, 159, 160, 161, 162, 163, 164, 165, 166, 167, 168, 169, 170, 171, 172, 173, 174, 175, 176, 177, 178, 179, 180, 181, 182, 37, 38, 183, 184, 185, 186, 187, 39, 188, 189, 190, 191, 192, 193, 194, 195, 196, 197, 198, 199, 200, 201, 202, 203, 204, 205, 206, 207, 208, 209, 210, 211, 212, 213, 214, 215, 216, 217, 218, 219, 220, 221, 222, 223, 224, 225, 226, 227, 228, 229, 230, 231, 232, 233, 335, 336, 337, 338, 339, 340, 341, 342, 351, 352, 353, 354, 355, 356, 357, 343, 344, 345, 346, 347, 348, 349, 350, 358, 359, 360, 361, 362, 363, 364, 365, 366, 367, 368, 369, 370, 371, 372, 373, 374, 375] rfl (by decide +kernel)) (goodIn_sub (fun _ h => List.mem_cons_of_mem _ (List.mem_append_left _ (List.mem_append_left _ (List.mem_append_right _ h)))) (by decide +kernel))) (goodIn_sub (fun _ h => List.mem_cons_of_mem _ (List.mem_append_left _ (List.mem_append_right _ h))) (by decide +kernel))
set_option maxRecDepth 200000 in
theorem gL_act_L_ask : GoodIn wsL_act (va_wsS RL 74 yL_ask wsL_ask) := goodIn_app (goodIn_of _ (by decide +kernel)) ggL_act_L_ask
set_option maxRecDepth 200000 in
theorem ggL_act_X5_requests : GoodIn wsL_act wsX5_requests := goodIn_r _ [237, 47, 335, 336, 337, 338, 339, 340, 341, 342] rfl (by decide +kernel)
set_option maxRecDepth 200000 in
theorem gL_act_X5_requests : GoodIn wsL_act (wsV RL 78 RX5 yX5_requests wsX5_requests) := goodIn_app (goodIn_of _ (by decide +kernel)) ggL_act_X5_requests
set_option maxRecDepth 200000 in
theorem ggL_act_L_does : GoodIn wsL_act wsL_does := goodIn_ca (goodIn_ca (goodIn_r _ [240, 241, 10, 11, 242, 243, 244, 15, 245, 19, 20, 21, 60, 246, 247, 248, 249, 250, 251, 93, 94, 95, 29, 96, 36, 97, 98, 99, 100, 101, 252, 253, 254, 255, 58, 59, 62, 63, 64, 65, 66, 67, 68, 69, 70, 71, 72, 73, 74, 75, 256, 257, 258, 259, 260, 261, 262, 263, 49, 48, 50, 264, 265, 266, 267, 47, 268, 269, 270, 271, 272, 273, 274, 275, 276, 61, 86, 277, 278, 219, 279, 280, 281, 282, 283, 284, 225, 87, 88, 89, 90, 91, 92, 102, 103, 104, 105, 106, 107, 108, 109, 110, 111, 112, 113, 114, 115, 116, 117, 118, 119, 120, 121, 122, 123, 124, 125, 126, 127, 128, 129, 130, 131, 132, 133, 134, 135, 136, 137, 138, 139, 140, 141, 142, 143, 144, 145, 146, 147, 148, 149, 150, 151, 152, 153, 154, 155, 156, 157, 158, 159, 160, 161, 162, 163, 164, 165, 166, 167, 168, 169, 170, 171, 172, 173, 174, 175, 176, 177, 178, 179, 180, 181, 182, 37, 38, 183, 184, 185, 186, 187, 39, 188, 189, 190, 191, 192, 193, 194, 195, 196, 197, 285, 231, 232, 233, 286, 287, 288, 289, 290, 291, 292, 293, 76, 77, 78, 79, 80, 81, 294, 295, 296, 297, 298, 299, 300, 301, 302, 303, 304, 305, 306, 307, 308, 309, 310, 311, 312, 313, 314, 315, 316, 317, 318, 319, 320, 321, 322, 335, 336, 337, 338, 339, 340, 341, 342, 343, 344, 345, 346, 347, 348, 349, 350, 351, 352, 353, 354, 355, 356, 357, 358, 359, 360, 361, 362, 363, 364, 365, 366, 367, 368, 369, 370, 371, 372, 373, 374, 375] rfl (by decide +kernel)) (goodIn_sub (fun _ h => List.mem_cons_of_mem _ (List.mem_append_left _ (List.mem_append_right _ h))) (by decide +kernel))) (goodIn_sub (fun _ h => List.mem_cons_of_mem _ (List.mem_append_right _ h)) (by decide +kernel))
set_option maxRecDepth 200000 in
theorem gL_act_L_does : GoodIn wsL_act (va_wsS RL 81 yL_does wsL_does) := goodIn_app (goodIn_of _ (by decide +kernel)) ggL_act_L_does
set_option maxRecDepth 200000 in
theorem ggL_act_L_convert : GoodIn wsL_act wsL_convert := goodIn_ca (goodIn_r _ [325, 9, 11, 326, 327, 328, 15, 329, 17, 18, 21, 330, 26, 27, 28, 29, 30, 31, 335, 336, 337, 338, 339, 340, 341, 342, 343, 344, 345, 346, 347, 348, 349, 350] rfl (by decide +kernel)) (goodIn_sub (fun _ h => List.mem_cons_of_mem _ (List.mem_append_left _ (List.mem_append_left _ (List.mem_append_right _ h)))) (by decide +kernel))
set_option maxRecDepth 200000 in
theorem gL_act_L_convert : GoodIn wsL_act (va_wsS RL 85 yL_convert wsL_convert) := goodIn_app (goodIn_of _ (by decide +kernel)) ggL_act_L_convert
set_option maxRecDepth 200000 in
theorem ggL_act_X5_lights : GoodIn wsL_act wsX5_lights := goodIn_r _ [334, 58, 335, 336, 337, 338, 339, 340, 341, 342] rfl (by decide +kernel)
set_option maxRecDepth 200000 in
theorem gL_act_X5_lights : GoodIn wsL_act (wsV RL 89 RX5 yX5_lights wsX5_lights) := goodIn_app (goodIn_of _ (by decide +kernel)) ggL_act_X5_lights
theorem dL_act_0 : decode cL_act 0 = .ok (.iload_n 2, 1) := by decide +kernel
theorem dL_act_1 : decode cL_act 1 = .ok (.bipush 24, 2) := by decide +kernel
theorem dL_act_3 : decode cL_act 3 = .ok (.ishr, 1) := by decide +kernel
theorem dL_act_4 : decode cL_act 4 = .ok (.bipush 8, 2) := by decide +kernel
theorem dL_act_6 : decode cL_act 6 = .ok (.invokestatic 65, 3) := by decide +kernel
theorem dL_act_9 : decode cL_act 9 = .ok (.ifCond .ne 7, 3) := by decide +kernel
theorem dL_act_12 : decode cL_act 12 = .ok (.iconst 1, 1) := by decide +kernel
theorem dL_act_13 : decode cL_act 13 = .ok (.goto 4, 3) := by decide +kernel
theorem dL_act_16 : decode cL_act 16 = .ok (.iconst 0, 1) := by decide +kernel
theorem dL_act_17 : decode cL_act 17 = .ok (.istore_n 3, 1) := by decide +kernel
theorem dL_act_18 : decode cL_act 18 = .ok (.iload_n 2, 1) := by decide +kernel
theorem dL_act_19 : decode cL_act 19 = .ok (.iconst 3, 1) := by decide +kernel
theorem dL_act_20 : decode cL_act 20 = .ok (.ishr, 1) := by decide +kernel
theorem dL_act_21 : decode cL_act 21 = .ok (.iload_n 3, 1) := by decide +kernel
theorem dL_act_22 : decode cL_act 22 = .ok (.ifCond .eq 8, 3) := by decide +kernel
theorem dL_act_25 : decode cL_act 25 = .ok (.bipush 10, 2) := by decide +kernel
theorem dL_act_27 : decode cL_act 27 = .ok (.goto 4, 3) := by decide +kernel
theorem dL_act_30 : decode cL_act 30 = .ok (.iload_n 1, 1) := by decide +kernel
theorem dL_act_31 : decode cL_act 31 = .ok (.invokestatic 65, 3) := by decide +kernel
theorem dL_act_34 : decode cL_act 34 = .ok (.istore 4, 2) := by decide +kernel
theorem dL_act_36 : decode cL_act 36 = .ok (.iload_n 3, 1) := by decide +kernel
theorem dL_act_37 : decode cL_act 37 = .ok (.ifCond .eq 15, 3) := by decide +kernel
theorem dL_act_40 : decode cL_act 40 = .ok (.iload_n 2, 1) := by decide +kernel
theorem dL_act_41 : decode cL_act 41 = .ok (.bipush 6, 2) := by decide +kernel
theorem dL_act_43 : decode cL_act 43 = .ok (.ishr, 1) := by decide +kernel
theorem dL_act_44 : decode cL_act 44 = .ok (.bipush 10, 2) := by decide +kernel
theorem dL_act_46 : decode cL_act 46 = .ok (.invokestatic 65, 3) := by decide +kernel
theorem dL_act_49 : decode cL_act 49 = .ok (.goto 20, 3) := by decide +kernel
theorem dL_act_52 : decode cL_act 52 = .ok (.iload 4, 2) := by decide +kernel
theorem dL_act_54 : decode cL_act 54 = .ok (.iconst 1, 1) := by decide +kernel
theorem dL_act_55 : decode cL_act 55 = .ok (.iadd, 1) := by decide +kernel
theorem dL_act_56 : decode cL_act 56 = .ok (.iload_n 2, 1) := by decide +kernel
theorem dL_act_57 : decode cL_act 57 = .ok (.bipush 6, 2) := by decide +kernel
theorem dL_act_59 : decode cL_act 59 = .ok (.ishr, 1) := by decide +kernel
theorem dL_act_60 : decode cL_act 60 = .ok (.iload_n 1, 1) := by decide +kernel
theorem dL_act_61 : decode cL_act 61 = .ok (.iconst 1, 1) := by decide +kernel
theorem dL_act_62 : decode cL_act 62 = .ok (.isub, 1) := by decide +kernel
theorem dL_act_63 : decode cL_act 63 = .ok (.invokestatic 65, 3) := by decide +kernel
theorem dL_act_66 : decode cL_act 66 = .ok (.iadd, 1) := by decide +kernel
theorem dL_act_67 : decode cL_act 67 = .ok (.iload_n 1, 1) := by decide +kernel
theorem dL_act_68 : decode cL_act 68 = .ok (.irem, 1) := by decide +kernel
theorem dL_act_69 : decode cL_act 69 = .ok (.istore 5, 2) := by decide +kernel
theorem dL_act_71 : decode cL_act 71 = .ok (.iload_n 2, 1) := by decide +kernel
theorem dL_act_72 : decode cL_act 72 = .ok (.bipush 26, 2) := by decide +kernel
theorem dL_act_74 : decode cL_act 74 = .ok (.invokestatic 65, 3) := by decide +kernel
theorem dL_act_77 : decode cL_act 77 = .ok (.istore 6, 2) := by decide +kernel
theorem dL_act_79 : decode cL_act 79 = .ok (.iload 6, 2) := by decide +kernel
theorem dL_act_81 : decode cL_act 81 = .ok (.iconst 3, 1) := by decide +kernel
theorem dL_act_82 : decode cL_act 82 = .ok (.if_icmp .ge 41, 3) := by decide +kernel
theorem dL_act_85 : decode cL_act 85 = .ok (.aload_n 0, 1) := by decide +kernel
theorem dL_act_86 : decode cL_act 86 = .ok (.iload 4, 2) := by decide +kernel
theorem dL_act_88 : decode cL_act 88 = .ok (.iload 5, 2) := by decide +kernel
theorem dL_act_90 : decode cL_act 90 = .ok (.iload_n 2, 1) := by decide +kernel
theorem dL_act_91 : decode cL_act 91 = .ok (.bipush 9, 2) := by decide +kernel
theorem dL_act_93 : decode cL_act 93 = .ok (.ishr, 1) := by decide +kernel
theorem dL_act_94 : decode cL_act 94 = .ok (.iload_n 3, 1) := by decide +kernel
theorem dL_act_95 : decode cL_act 95 = .ok (.ifCond .eq 9, 3) := by decide +kernel
theorem dL_act_98 : decode cL_act 98 = .ok (.sipush 1200, 3) := by decide +kernel
theorem dL_act_101 : decode cL_act 101 = .ok (.goto 5, 3) := by decide +kernel
theorem dL_act_104 : decode cL_act 104 = .ok (.bipush 9, 2) := by decide +kernel
theorem dL_act_106 : decode cL_act 106 = .ok (.invokestatic 65, 3) := by decide +kernel
theorem dL_act_109 : decode cL_act 109 = .ok (.iload_n 3, 1) := by decide +kernel
theorem dL_act_110 : decode cL_act 110 = .ok (.ifCond .eq 7, 3) := by decide +kernel
theorem dL_act_113 : decode cL_act 113 = .ok (.iconst 0, 1) := by decide +kernel
theorem dL_act_114 : decode cL_act 114 = .ok (.goto 4, 3) := by decide +kernel
theorem dL_act_117 : decode cL_act 117 = .ok (.iconst 1, 1) := by decide +kernel
theorem dL_act_118 : decode cL_act 118 = .ok (.iadd, 1) := by decide +kernel
theorem dL_act_119 : decode cL_act 119 = .ok (.invokestatic 70, 3) := by decide +kernel
theorem dL_act_122 : decode cL_act 122 = .ok (.ireturn, 1) := by decide +kernel
theorem dL_act_123 : decode cL_act 123 = .ok (.iload 6, 2) := by decide +kernel
theorem dL_act_125 : decode cL_act 125 = .ok (.bipush 15, 2) := by decide +kernel
theorem dL_act_127 : decode cL_act 127 = .ok (.if_icmp .ge 56, 3) := by decide +kernel
theorem dL_act_130 : decode cL_act 130 = .ok (.aload_n 0, 1) := by decide +kernel
theorem dL_act_131 : decode cL_act 131 = .ok (.iload 4, 2) := by decide +kernel
theorem dL_act_133 : decode cL_act 133 = .ok (.iload 5, 2) := by decide +kernel
theorem dL_act_135 : decode cL_act 135 = .ok (.iload_n 2, 1) := by decide +kernel
theorem dL_act_136 : decode cL_act 136 = .ok (.bipush 9, 2) := by decide +kernel
theorem dL_act_138 : decode cL_act 138 = .ok (.ishr, 1) := by decide +kernel
theorem dL_act_139 : decode cL_act 139 = .ok (.iload_n 3, 1) := by decide +kernel
theorem dL_act_140 : decode cL_act 140 = .ok (.ifCond .eq 8, 3) := by decide +kernel
theorem dL_act_143 : decode cL_act 143 = .ok (.bipush 13, 2) := by decide +kernel
theorem dL_act_145 : decode cL_act 145 = .ok (.goto 5, 3) := by decide +kernel
theorem dL_act_148 : decode cL_act 148 = .ok (.bipush 10, 2) := by decide +kernel
theorem dL_act_150 : decode cL_act 150 = .ok (.invokestatic 65, 3) := by decide +kernel
theorem dL_act_153 : decode cL_act 153 = .ok (.iload_n 3, 1) := by decide +kernel
theorem dL_act_154 : decode cL_act 154 = .ok (.ifCond .eq 7, 3) := by decide +kernel
theorem dL_act_157 : decode cL_act 157 = .ok (.iconst 0, 1) := by decide +kernel
theorem dL_act_158 : decode cL_act 158 = .ok (.goto 4, 3) := by decide +kernel
theorem dL_act_161 : decode cL_act 161 = .ok (.iconst 1, 1) := by decide +kernel
theorem dL_act_162 : decode cL_act 162 = .ok (.iadd, 1) := by decide +kernel
theorem dL_act_163 : decode cL_act 163 = .ok (.iload_n 2, 1) := by decide +kernel
theorem dL_act_164 : decode cL_act 164 = .ok (.bipush 13, 2) := by decide +kernel
theorem dL_act_166 : decode cL_act 166 = .ok (.ishr, 1) := by decide +kernel
theorem dL_act_167 : decode cL_act 167 = .ok (.iload_n 3, 1) := by decide +kernel
theorem dL_act_168 : decode cL_act 168 = .ok (.ifCond .eq 7, 3) := by decide +kernel
theorem dL_act_171 : decode cL_act 171 = .ok (.iconst 4, 1) := by decide +kernel
theorem dL_act_172 : decode cL_act 172 = .ok (.goto 4, 3) := by decide +kernel
theorem dL_act_175 : decode cL_act 175 = .ok (.iconst 3, 1) := by decide +kernel
theorem dL_act_176 : decode cL_act 176 = .ok (.invokestatic 65, 3) := by decide +kernel
theorem dL_act_179 : decode cL_act 179 = .ok (.invokestatic 74, 3) := by decide +kernel
theorem dL_act_182 : decode cL_act 182 = .ok (.ireturn, 1) := by decide +kernel
theorem dL_act_183 : decode cL_act 183 = .ok (.iload 6, 2) := by decide +kernel
theorem dL_act_185 : decode cL_act 185 = .ok (.bipush 18, 2) := by decide +kernel
theorem dL_act_187 : decode cL_act 187 = .ok (.if_icmp .ge 21, 3) := by decide +kernel
theorem dL_act_190 : decode cL_act 190 = .ok (.aload_n 0, 1) := by decide +kernel
theorem dL_act_191 : decode cL_act 191 = .ok (.iconst 2, 1) := by decide +kernel
theorem dL_act_192 : decode cL_act 192 = .ok (.iload_n 2, 1) := by decide +kernel
theorem dL_act_193 : decode cL_act 193 = .ok (.iconst 4, 1) := by decide +kernel
theorem dL_act_194 : decode cL_act 194 = .ok (.ishr, 1) := by decide +kernel
theorem dL_act_195 : decode cL_act 195 = .ok (.aload_n 0, 1) := by decide +kernel
theorem dL_act_196 : decode cL_act 196 = .ok (.invokevirtual 78, 3) := by decide +kernel
theorem dL_act_199 : decode cL_act 199 = .ok (.iconst 1, 1) := by decide +kernel
theorem dL_act_200 : decode cL_act 200 = .ok (.iadd, 1) := by decide +kernel
theorem dL_act_201 : decode cL_act 201 = .ok (.invokestatic 65, 3) := by decide +kernel
theorem dL_act_204 : decode cL_act 204 = .ok (.invokestatic 81, 3) := by decide +kernel
theorem dL_act_207 : decode cL_act 207 = .ok (.ireturn, 1) := by decide +kernel
theorem dL_act_208 : decode cL_act 208 = .ok (.iload 6, 2) := by decide +kernel
theorem dL_act_210 : decode cL_act 210 = .ok (.bipush 18, 2) := by decide +kernel
theorem dL_act_212 : decode cL_act 212 = .ok (.if_icmp .ne 10, 3) := by decide +kernel
theorem dL_act_215 : decode cL_act 215 = .ok (.aload_n 0, 1) := by decide +kernel
theorem dL_act_216 : decode cL_act 216 = .ok (.iload 4, 2) := by decide +kernel
theorem dL_act_218 : decode cL_act 218 = .ok (.invokestatic 85, 3) := by decide +kernel
theorem dL_act_221 : decode cL_act 221 = .ok (.ireturn, 1) := by decide +kernel
theorem dL_act_222 : decode cL_act 222 = .ok (.iload 6, 2) := by decide +kernel
theorem dL_act_224 : decode cL_act 224 = .ok (.bipush 21, 2) := by decide +kernel
theorem dL_act_226 : decode cL_act 226 = .ok (.if_icmp .ge 21, 3) := by decide +kernel
theorem dL_act_229 : decode cL_act 229 = .ok (.aload_n 0, 1) := by decide +kernel
theorem dL_act_230 : decode cL_act 230 = .ok (.iload 6, 2) := by decide +kernel
theorem dL_act_232 : decode cL_act 232 = .ok (.bipush 19, 2) := by decide +kernel
theorem dL_act_234 : decode cL_act 234 = .ok (.isub, 1) := by decide +kernel
theorem dL_act_235 : decode cL_act 235 = .ok (.iload_n 2, 1) := by decide +kernel
theorem dL_act_236 : decode cL_act 236 = .ok (.iconst 4, 1) := by decide +kernel
theorem dL_act_237 : decode cL_act 237 = .ok (.ishr, 1) := by decide +kernel
theorem dL_act_238 : decode cL_act 238 = .ok (.bipush 14, 2) := by decide +kernel
theorem dL_act_240 : decode cL_act 240 = .ok (.invokestatic 65, 3) := by decide +kernel
theorem dL_act_243 : decode cL_act 243 = .ok (.invokestatic 81, 3) := by decide +kernel
theorem dL_act_246 : decode cL_act 246 = .ok (.ireturn, 1) := by decide +kernel
theorem dL_act_247 : decode cL_act 247 = .ok (.iload 6, 2) := by decide +kernel
theorem dL_act_249 : decode cL_act 249 = .ok (.bipush 23, 2) := by decide +kernel
theorem dL_act_251 : decode cL_act 251 = .ok (.if_icmp .ge 23, 3) := by decide +kernel
theorem dL_act_254 : decode cL_act 254 = .ok (.aload_n 0, 1) := by decide +kernel
theorem dL_act_255 : decode cL_act 255 = .ok (.iconst 4, 1) := by decide +kernel
theorem dL_act_256 : decode cL_act 256 = .ok (.iload_n 2, 1) := by decide +kernel
theorem dL_act_257 : decode cL_act 257 = .ok (.iconst 4, 1) := by decide +kernel
theorem dL_act_258 : decode cL_act 258 = .ok (.ishr, 1) := by decide +kernel
theorem dL_act_259 : decode cL_act 259 = .ok (.aload_n 0, 1) := by decide +kernel
theorem dL_act_260 : decode cL_act 260 = .ok (.invokevirtual 89, 3) := by decide +kernel
theorem dL_act_263 : decode cL_act 263 = .ok (.iconst 1, 1) := by decide +kernel
theorem dL_act_264 : decode cL_act 264 = .ok (.iadd, 1) := by decide +kernel
theorem dL_act_265 : decode cL_act 265 = .ok (.invokestatic 65, 3) := by decide +kernel
theorem dL_act_268 : decode cL_act 268 = .ok (.invokestatic 81, 3) := by decide +kernel
theorem dL_act_271 : decode cL_act 271 = .ok (.goto 21, 3) := by decide +kernel
theorem dL_act_274 : decode cL_act 274 = .ok (.aload_n 0, 1) := by decide +kernel
theorem dL_act_275 : decode cL_act 275 = .ok (.iload 6, 2) := by decide +kernel
theorem dL_act_277 : decode cL_act 277 = .ok (.bipush 25, 2) := by decide +kernel
theorem dL_act_279 : decode cL_act 279 = .ok (.if_icmp .ge 7, 3) := by decide +kernel
theorem dL_act_282 : decode cL_act 282 = .ok (.iconst 5, 1) := by decide +kernel
theorem dL_act_283 : decode cL_act 283 = .ok (.goto 5, 3) := by decide +kernel
theorem dL_act_286 : decode cL_act 286 = .ok (.bipush 6, 2) := by decide +kernel
theorem dL_act_288 : decode cL_act 288 = .ok (.iconst 0, 1) := by decide +kernel
theorem dL_act_289 : decode cL_act 289 = .ok (.invokestatic 81, 3) := by decide +kernel
theorem dL_act_292 : decode cL_act 292 = .ok (.ireturn, 1) := by decide +kernel
set_option maxRecDepth 200000 in
theorem ggL_areAlike_X5_load : GoodIn wsL_areAlike wsX5_load := goodIn_r _ [5, 6, 7, 8, 9, 10, 11, 12, 13, 14, 4, 15, 16, 17, 18, 19, 20, 21, 22, 23, 24, 25, 26, 27, 28, 29, 30, 31, 32, 33, 34, 35, 36, 37, 38, 39, 40, 41, 42, 43, 44, 45, 46, 47, 48, 49, 50, 51, 52, 53, 133, 134, 135, 136, 137, 138, 139, 140, 141, 142, 143, 144, 145, 146, 147, 148, 149, 150, 151, 152, 153, 154, 155, 156, 157, 158, 159, 160] rfl (by decide +kernel)
set_option maxRecDepth 200000 in
theorem gL_areAlike_X5_load : GoodIn wsL_areAlike (wsV RL 92 RX5 yX5_load wsX5_load) := goodIn_app (goodIn_of _ (by decide +kernel)) ggL_areAlike_X5_load
set_option maxRecDepth 200000 in
theorem ggL_areAlike_X5_requests : GoodIn wsL_areAlike wsX5_requests := goodIn_r _ [57, 58, 133, 134, 135, 136, 137, 138, 139, 140] rfl (by decide +kernel)
set_option maxRecDepth 200000 in
theorem gL_areAlike_X5_requests : GoodIn wsL_areAlike (wsV RL 78 RX5 yX5_requests wsX5_requests) := goodIn_app (goodIn_of _ (by decide +kernel)) ggL_areAlike_X5_requests
set_option maxRecDepth 200000 in
theorem ggL_areAlike_X5_lights : GoodIn wsL_areAlike wsX5_lights := goodIn_r _ [62, 16, 133, 134, 135, 136, 137, 138, 139, 140] rfl (by decide +kernel)
set_option maxRecDepth 200000 in
theorem gL_areAlike_X5_lights : GoodIn wsL_areAlike (wsV RL 89 RX5 yX5_lights wsX5_lights) := goodIn_app (goodIn_of _ (by decide +kernel)) ggL_areAlike_X5_lights
set_option maxRecDepth 200000 in
theorem ggL_areAlike_X5_usage : GoodIn wsL_areAlike wsX5_usage := goodIn_ca (goodIn_r _ [66, 67, 68, 6, 7, 69, 12, 13, 14, 4, 15, 16, 17, 18, 19, 20, 21, 22, 23, 24, 25, 26, 27, 28, 29, 30, 31, 32, 33, 34, 35, 36, 37, 38, 39, 40, 41, 42, 43, 44, 45, 46, 47, 48, 49, 50, 51, 52, 53, 133, 134, 135, 136, 137, 138, 139, 140, 141, 142, 143, 144, 145, 146, 147, 148, 149, 150, 151, 152, 153, 154, 155, 156, 157, 158, 159, 160] rfl (by decide +kernel)) (goodIn_sub (fun _ h => List.mem_cons_of_mem _ (List.mem_append_left _ (List.mem_append_left _ (List.mem_append_right _ h)))) (by decide +kernel))
set_option maxRecDepth 200000 in
theorem gL_areAlike_X5_usage : GoodIn wsL_areAlike (wsV RL 95 RX5 yX5_usage wsX5_usage) := goodIn_app (goodIn_of _ (by decide +kernel)) ggL_areAlike_X5_usage
set_option maxRecDepth 200000 in
theorem ggL_areAlike_L_looks : GoodIn wsL_areAlike wsL_looks := goodIn_ca (goodIn_ca (goodIn_r _ [73, 74, 75, 76, 77, 78, 79, 4, 80, 81, 82, 83, 84, 85, 86, 87, 88, 89, 90, 91, 16, 17, 92, 93, 94, 21, 95, 23, 24, 25, 26, 27, 28, 29, 30, 96, 97, 98, 99, 100, 43, 44, 34, 45, 46, 36, 101, 102, 103, 104, 105, 106, 6, 69, 107, 108, 109, 110, 111, 112, 113, 114, 115, 116, 18, 19, 20, 22, 31, 32, 33, 35, 37, 38, 39, 40, 41, 42, 156, 157, 158, 159, 160, 133, 134, 135, 136, 137, 138, 139, 140, 149, 150, 151, 152, 153, 154, 155, 141, 142, 143, 144, 145, 146, 147, 148] rfl (by decide +kernel)) (goodIn_sub (fun _ h => List.mem_cons_of_mem _ (List.mem_append_left _ (List.mem_append_right _ h))) (by decide +kernel))) (goodIn_sub (fun _ h => List.mem_cons_of_mem _ (List.mem_append_right _ h)) (by decide +kernel))
set_option maxRecDepth 200000 in
theorem gL_areAlike_L_looks : GoodIn wsL_areAlike (va_wsS RL 99 yL_looks wsL_looks) := goodIn_app (goodIn_of _ (by decide +kernel)) ggL_areAlike_L_looks
set_option maxRecDepth 200000 in
theorem ggL_areAlike_X5_state : GoodIn wsL_areAlike wsX5_state := goodIn_ca (goodIn_r _ [120, 6, 121, 88, 89, 90, 4, 91, 86, 87, 16, 17, 122, 27, 28, 21, 29, 30, 123, 124, 125, 126, 23, 127, 24, 25, 26, 133, 134, 135, 136, 137, 138, 139, 140, 141, 142, 143, 144, 145, 146, 147, 148, 149, 150, 151, 152, 153, 154, 155, 156, 157, 158, 159, 160] rfl (by decide +kernel)) (goodIn_sub (fun _ h => List.mem_cons_of_mem _ (List.mem_append_left _ (List.mem_append_right _ h))) (by decide +kernel))
set_option maxRecDepth 200000 in
theorem gL_areAlike_X5_state : GoodIn wsL_areAlike (wsV RL 102 RX5 yX5_state wsX5_state) := goodIn_app (goodIn_of _ (by decide +kernel)) ggL_areAlike_X5_state
set_option maxRecDepth 200000 in
theorem ggL_areAlike_X5_units : GoodIn wsL_areAlike wsX5_units := goodIn_ca (goodIn_r _ [131, 132, 88, 89, 90, 4, 91, 86, 87, 16, 17, 149, 150, 151, 152, 153, 154, 155, 133, 134, 135, 136, 137, 138, 139, 140] rfl (by decide +kernel)) (goodIn_sub (fun _ h => List.mem_cons_of_mem _ (List.mem_append_left _ (List.mem_append_right _ h))) (by decide +kernel))
set_option maxRecDepth 200000 in
theorem gL_areAlike_X5_units : GoodIn wsL_areAlike (wsV RL 105 RX5 yX5_units wsX5_units) := goodIn_app (goodIn_of _ (by decide +kernel)) ggL_areAlike_X5_units
theorem dL_areAlike_0 : decode cL_areAlike 0 = .ok (.aload_n 0, 1) := by decide +kernel
theorem dL_areAlike_1 : decode cL_areAlike 1 = .ok (.invokevirtual 92, 3) := by decide +kernel
theorem dL_areAlike_4 : decode cL_areAlike 4 = .ok (.aload_n 1, 1) := by decide +kernel
theorem dL_areAlike_5 : decode cL_areAlike 5 = .ok (.invokevirtual 92, 3) := by decide +kernel
theorem dL_areAlike_8 : decode cL_areAlike 8 = .ok (.if_icmp .ne 41, 3) := by decide +kernel
theorem dL_areAlike_11 : decode cL_areAlike 11 = .ok (.aload_n 0, 1) := by decide +kernel
theorem dL_areAlike_12 : decode cL_areAlike 12 = .ok (.invokevirtual 78, 3) := by decide +kernel
theorem dL_areAlike_15 : decode cL_areAlike 15 = .ok (.aload_n 1, 1) := by decide +kernel
theorem dL_areAlike_16 : decode cL_areAlike 16 = .ok (.invokevirtual 78, 3) := by decide +kernel
theorem dL_areAlike_19 : decode cL_areAlike 19 = .ok (.if_icmp .ne 30, 3) := by decide +kernel
theorem dL_areAlike_22 : decode cL_areAlike 22 = .ok (.aload_n 0, 1) := by decide +kernel
theorem dL_areAlike_23 : decode cL_areAlike 23 = .ok (.invokevirtual 89, 3) := by decide +kernel
theorem dL_areAlike_26 : decode cL_areAlike 26 = .ok (.aload_n 1, 1) := by decide +kernel
theorem dL_areAlike_27 : decode cL_areAlike 27 = .ok (.invokevirtual 89, 3) := by decide +kernel
theorem dL_areAlike_30 : decode cL_areAlike 30 = .ok (.if_icmp .ne 19, 3) := by decide +kernel
theorem dL_areAlike_33 : decode cL_areAlike 33 = .ok (.aload_n 0, 1) := by decide +kernel
theorem dL_areAlike_34 : decode cL_areAlike 34 = .ok (.invokevirtual 95, 3) := by decide +kernel
theorem dL_areAlike_37 : decode cL_areAlike 37 = .ok (.aload_n 1, 1) := by decide +kernel
theorem dL_areAlike_38 : decode cL_areAlike 38 = .ok (.invokevirtual 95, 3) := by decide +kernel
theorem dL_areAlike_41 : decode cL_areAlike 41 = .ok (.fcmp .l, 1) := by decide +kernel
theorem dL_areAlike_42 : decode cL_areAlike 42 = .ok (.ifCond .ne 7, 3) := by decide +kernel
theorem dL_areAlike_45 : decode cL_areAlike 45 = .ok (.iconst 1, 1) := by decide +kernel
theorem dL_areAlike_46 : decode cL_areAlike 46 = .ok (.goto 4, 3) := by decide +kernel
theorem dL_areAlike_49 : decode cL_areAlike 49 = .ok (.iconst 0, 1) := by decide +kernel
theorem dL_areAlike_50 : decode cL_areAlike 50 = .ok (.istore_n 2, 1) := by decide +kernel
theorem dL_areAlike_51 : decode cL_areAlike 51 = .ok (.iconst 0, 1) := by decide +kernel
theorem dL_areAlike_52 : decode cL_areAlike 52 = .ok (.istore_n 3, 1) := by decide +kernel
theorem dL_areAlike_53 : decode cL_areAlike 53 = .ok (.iload_n 3, 1) := by decide +kernel
theorem dL_areAlike_54 : decode cL_areAlike 54 = .ok (.bipush 14, 2) := by decide +kernel
theorem dL_areAlike_56 : decode cL_areAlike 56 = .ok (.if_icmp .ge 60, 3) := by decide +kernel
theorem dL_areAlike_59 : decode cL_areAlike 59 = .ok (.iload_n 2, 1) := by decide +kernel
theorem dL_areAlike_60 : decode cL_areAlike 60 = .ok (.ifCond .eq 56, 3) := by decide +kernel
theorem dL_areAlike_63 : decode cL_areAlike 63 = .ok (.iconst 0, 1) := by decide +kernel
theorem dL_areAlike_64 : decode cL_areAlike 64 = .ok (.istore 4, 2) := by decide +kernel
theorem dL_areAlike_66 : decode cL_areAlike 66 = .ok (.iload 4, 2) := by decide +kernel
theorem dL_areAlike_68 : decode cL_areAlike 68 = .ok (.bipush 8, 2) := by decide +kernel
theorem dL_areAlike_70 : decode cL_areAlike 70 = .ok (.if_icmp .ge 40, 3) := by decide +kernel
theorem dL_areAlike_73 : decode cL_areAlike 73 = .ok (.iload_n 2, 1) := by decide +kernel
theorem dL_areAlike_74 : decode cL_areAlike 74 = .ok (.ifCond .eq 36, 3) := by decide +kernel
theorem dL_areAlike_77 : decode cL_areAlike 77 = .ok (.aload_n 0, 1) := by decide +kernel
theorem dL_areAlike_78 : decode cL_areAlike 78 = .ok (.iconst 2, 1) := by decide +kernel
theorem dL_areAlike_79 : decode cL_areAlike 79 = .ok (.iload_n 3, 1) := by decide +kernel
theorem dL_areAlike_80 : decode cL_areAlike 80 = .ok (.iload 4, 2) := by decide +kernel
theorem dL_areAlike_82 : decode cL_areAlike 82 = .ok (.iconst 0, 1) := by decide +kernel
theorem dL_areAlike_83 : decode cL_areAlike 83 = .ok (.invokestatic 99, 3) := by decide +kernel
theorem dL_areAlike_86 : decode cL_areAlike 86 = .ok (.aload_n 1, 1) := by decide +kernel
theorem dL_areAlike_87 : decode cL_areAlike 87 = .ok (.iconst 2, 1) := by decide +kernel
theorem dL_areAlike_88 : decode cL_areAlike 88 = .ok (.iload_n 3, 1) := by decide +kernel
theorem dL_areAlike_89 : decode cL_areAlike 89 = .ok (.iload 4, 2) := by decide +kernel
theorem dL_areAlike_91 : decode cL_areAlike 91 = .ok (.iconst 0, 1) := by decide +kernel
theorem dL_areAlike_92 : decode cL_areAlike 92 = .ok (.invokestatic 99, 3) := by decide +kernel
theorem dL_areAlike_95 : decode cL_areAlike 95 = .ok (.if_icmp .ne 7, 3) := by decide +kernel
theorem dL_areAlike_98 : decode cL_areAlike 98 = .ok (.iconst 1, 1) := by decide +kernel
theorem dL_areAlike_99 : decode cL_areAlike 99 = .ok (.goto 4, 3) := by decide +kernel
theorem dL_areAlike_102 : decode cL_areAlike 102 = .ok (.iconst 0, 1) := by decide +kernel
theorem dL_areAlike_103 : decode cL_areAlike 103 = .ok (.istore_n 2, 1) := by decide +kernel
theorem dL_areAlike_104 : decode cL_areAlike 104 = .ok (.iinc 4 1, 3) := by decide +kernel
theorem dL_areAlike_107 : decode cL_areAlike 107 = .ok (.goto (-41), 3) := by decide +kernel
theorem dL_areAlike_110 : decode cL_areAlike 110 = .ok (.iinc 3 1, 3) := by decide +kernel
theorem dL_areAlike_113 : decode cL_areAlike 113 = .ok (.goto (-60), 3) := by decide +kernel
theorem dL_areAlike_116 : decode cL_areAlike 116 = .ok (.iconst 0, 1) := by decide +kernel
theorem dL_areAlike_117 : decode cL_areAlike 117 = .ok (.istore_n 3, 1) := by decide +kernel
theorem dL_areAlike_118 : decode cL_areAlike 118 = .ok (.iload_n 3, 1) := by decide +kernel
theorem dL_areAlike_119 : decode cL_areAlike 119 = .ok (.aload_n 0, 1) := by decide +kernel
theorem dL_areAlike_120 : decode cL_areAlike 120 = .ok (.invokevirtual 89, 3) := by decide +kernel
theorem dL_areAlike_123 : decode cL_areAlike 123 = .ok (.if_icmp .ge 45, 3) := by decide +kernel
theorem dL_areAlike_126 : decode cL_areAlike 126 = .ok (.iload_n 2, 1) := by decide +kernel
theorem dL_areAlike_127 : decode cL_areAlike 127 = .ok (.ifCond .eq 41, 3) := by decide +kernel
theorem dL_areAlike_130 : decode cL_areAlike 130 = .ok (.aload_n 0, 1) := by decide +kernel
theorem dL_areAlike_131 : decode cL_areAlike 131 = .ok (.iload_n 3, 1) := by decide +kernel
theorem dL_areAlike_132 : decode cL_areAlike 132 = .ok (.invokevirtual 102, 3) := by decide +kernel
theorem dL_areAlike_135 : decode cL_areAlike 135 = .ok (.aload_n 1, 1) := by decide +kernel
theorem dL_areAlike_136 : decode cL_areAlike 136 = .ok (.iload_n 3, 1) := by decide +kernel
theorem dL_areAlike_137 : decode cL_areAlike 137 = .ok (.invokevirtual 102, 3) := by decide +kernel
theorem dL_areAlike_140 : decode cL_areAlike 140 = .ok (.if_icmp .ne 20, 3) := by decide +kernel
theorem dL_areAlike_143 : decode cL_areAlike 143 = .ok (.aload_n 0, 1) := by decide +kernel
theorem dL_areAlike_144 : decode cL_areAlike 144 = .ok (.iload_n 3, 1) := by decide +kernel
theorem dL_areAlike_145 : decode cL_areAlike 145 = .ok (.invokevirtual 105, 3) := by decide +kernel
theorem dL_areAlike_148 : decode cL_areAlike 148 = .ok (.aload_n 1, 1) := by decide +kernel
theorem dL_areAlike_149 : decode cL_areAlike 149 = .ok (.iload_n 3, 1) := by decide +kernel
theorem dL_areAlike_150 : decode cL_areAlike 150 = .ok (.invokevirtual 105, 3) := by decide +kernel
theorem dL_areAlike_153 : decode cL_areAlike 153 = .ok (.if_icmp .ne 7, 3) := by decide +kernel
theorem dL_areAlike_156 : decode cL_areAlike 156 = .ok (.iconst 1, 1) := by decide +kernel
theorem dL_areAlike_157 : decode cL_areAlike 157 = .ok (.goto 4, 3) := by decide +kernel
theorem dL_areAlike_160 : decode cL_areAlike 160 = .ok (.iconst 0, 1) := by decide +kernel
theorem dL_areAlike_161 : decode cL_areAlike 161 = .ok (.istore_n 2, 1) := by decide +kernel
theorem dL_areAlike_162 : decode cL_areAlike 162 = .ok (.iinc 3 1, 3) := by decide +kernel
theorem dL_areAlike_165 : decode cL_areAlike 165 = .ok (.goto (-47), 3) := by decide +kernel
theorem dL_areAlike_168 : decode cL_areAlike 168 = .ok (.iload_n 2, 1) := by decide +kernel
theorem dL_areAlike_169 : decode cL_areAlike 169 = .ok (.ireturn, 1) := by decide +kernel
set_option maxRecDepth 200000 in
theorem ggL_areLightsSo_X5_lights : GoodIn wsL_areLightsSo wsX5_lights := goodIn_r _ [6, 7, 283, 284, 285, 286, 287, 288, 289, 290] rfl (by decide +kernel)
set_option maxRecDepth 200000 in
theorem gL_areLightsSo_X5_lights : GoodIn wsL_areLightsSo (wsV RL 89 RX5 yX5_lights wsX5_lights) := goodIn_app (goodIn_of _ (by decide +kernel)) ggL_areLightsSo_X5_lights
set_option maxRecDepth 200000 in
theorem ggL_areLightsSo_X5_state : GoodIn wsL_areLightsSo wsX5_state := goodIn_ca (goodIn_r _ [11, 12, 13, 14, 15, 16, 5, 17, 18, 19, 7, 20, 21, 22, 23, 24, 25, 26, 27, 28, 29, 30, 31, 32, 33, 34, 35, 283, 284, 285, 286, 287, 288, 289, 290, 291, 292, 293, 294, 295, 296, 297, 298, 299, 300, 301, 302, 303, 304, 305, 306, 307, 308, 309, 310] rfl (by decide +kernel)) (goodIn_sub (fun _ h => List.mem_cons_of_mem _ (List.mem_append_left _ (List.mem_append_left _ (List.mem_append_right _ h)))) (by decide +kernel))
set_option maxRecDepth 200000 in
theorem gL_areLightsSo_X5_state : GoodIn wsL_areLightsSo (wsV RL 102 RX5 yX5_state wsX5_state) := goodIn_app (goodIn_of _ (by decide +kernel)) ggL_areLightsSo_X5_state
set_option maxRecDepth 200000 in
theorem ggL_areLightsSo_X5_units : GoodIn wsL_areLightsSo wsX5_units := goodIn_ca (goodIn_r _ [39, 40, 14, 15, 16, 5, 17, 18, 19, 7, 20, 299, 300, 301, 302, 303, 304, 305, 283, 284, 285, 286, 287, 288, 289, 290] rfl (by decide +kernel)) (goodIn_sub (fun _ h => List.mem_cons_of_mem _ (List.mem_append_left _ (List.mem_append_left _ (List.mem_append_right _ h)))) (by decide +kernel))
set_option maxRecDepth 200000 in
theorem gL_areLightsSo_X5_units : GoodIn wsL_areLightsSo (wsV RL 105 RX5 yX5_units wsX5_units) := goodIn_app (goodIn_of _ (by decide +kernel)) ggL_areLightsSo_X5_units
set_option maxRecDepth 200000 in
theorem ggL_areLightsSo_L_looks : GoodIn wsL_areLightsSo wsL_looks := goodIn_ca (goodIn_ca (goodIn_r _ [44, 45, 46, 1, 47, 48, 49, 5, 50, 51, 52, 53, 54, 55, 18, 19, 14, 15, 16, 17, 7, 20, 56, 57, 58, 24, 59, 31, 33, 34, 35, 22, 23, 25, 26, 60, 61, 62, 63, 64, 65, 66, 67, 68, 69, 70, 71, 72, 73, 74, 75, 76, 12, 77, 78, 79, 80, 81, 82, 83, 84, 85, 86, 87, 88, 89, 90, 91, 92, 93, 94, 95, 96, 97, 98, 99, 100, 101, 306, 307, 308, 309, 310, 283, 284, 285, 286, 287, 288, 289, 290, 299, 300, 301, 302, 303, 304, 305, 291, 292, 293, 294, 295, 296, 297, 298] rfl (by decide +kernel)) (goodIn_sub (fun _ h => List.mem_cons_of_mem _ (List.mem_append_left _ (List.mem_append_left _ (List.mem_append_right _ h)))) (by decide +kernel))) (goodIn_sub (fun _ h => List.mem_cons_of_mem _ (List.mem_append_left _ (List.mem_append_right _ h))) (by decide +kernel))
set_option maxRecDepth 200000 in
theorem gL_areLightsSo_L_looks : GoodIn wsL_areLightsSo (va_wsS RL 99 yL_looks wsL_looks) := goodIn_app (goodIn_of _ (by decide +kernel)) ggL_areLightsSo_L_looks
set_option maxRecDepth 200000 in
theorem ggL_areLightsSo_X5_channel : GoodIn wsL_areLightsSo wsX5_channel := goodIn_ca (goodIn_r _ [63, 18, 19, 51, 52, 53, 54, 5, 55, 14, 15, 16, 17, 7, 20, 56, 57, 58, 24, 59, 31, 33, 34, 35, 22, 23, 25, 26, 64, 65, 66, 67, 68, 69, 70, 306, 307, 308, 309, 310, 283, 284, 285, 286, 287, 288, 289, 290, 299, 300, 301, 302, 303, 304, 305] rfl (by decide +kernel)) (goodIn_sub (fun _ h => List.mem_cons_of_mem _ (List.mem_append_left _ (List.mem_append_left _ (List.mem_append_right _ h)))) (by decide +kernel))
set_option maxRecDepth 200000 in
theorem gL_areLightsSo_X5_channel : GoodIn wsL_areLightsSo (wsV RL 55 RX5 yX5_channel wsX5_channel) := goodIn_app (goodIn_of _ (by decide +kernel)) ggL_areLightsSo_X5_channel
set_option maxRecDepth 200000 in
theorem ggL_areLightsSo_X5_lightOn : GoodIn wsL_areLightsSo wsX5_lightOn := goodIn_ca (goodIn_ca (goodIn_r _ [74, 75, 76, 12, 77, 7, 20, 78, 79, 80, 5, 81, 18, 19, 82, 83, 84, 85, 86, 87, 88, 89, 90, 24, 91, 31, 33, 34, 35, 22, 23, 25, 26, 92, 93, 94, 67, 95, 70, 96, 97, 98, 99, 100, 101, 65, 66, 68, 69, 283, 284, 285, 286, 287, 288, 289, 290, 291, 292, 293, 294, 295, 296, 297, 298, 299, 300, 301, 302, 303, 304, 305, 306, 307, 308, 309, 310] rfl (by decide +kernel)) (goodIn_sub (fun _ h => List.mem_cons_of_mem _ (List.mem_append_left _ (List.mem_append_right _ h))) (by decide +kernel))) (goodIn_sub (fun _ h => List.mem_cons_of_mem _ (List.mem_append_left _ (List.mem_append_left _ (List.mem_append_right _ h)))) (by decide +kernel))
set_option maxRecDepth 200000 in
theorem gL_areLightsSo_X5_lightOn : GoodIn wsL_areLightsSo (wsV RL 58 RX5 yX5_lightOn wsX5_lightOn) := goodIn_app (goodIn_of _ (by decide +kernel)) ggL_areLightsSo_X5_lightOn
set_option maxRecDepth 200000 in
theorem ggL_areLightsSo_X5_requests : GoodIn wsL_areLightsSo wsX5_requests := goodIn_r _ [105, 106, 283, 284, 285, 286, 287, 288, 289, 290] rfl (by decide +kernel)
set_option maxRecDepth 200000 in
theorem gL_areLightsSo_X5_requests : GoodIn wsL_areLightsSo (wsV RL 78 RX5 yX5_requests wsX5_requests) := goodIn_app (goodIn_of _ (by decide +kernel)) ggL_areLightsSo_X5_requests
set_option maxRecDepth 200000 in
theorem ggL_areLightsSo_L_does : GoodIn wsL_areLightsSo wsL_does := goodIn_ca (goodIn_ca (goodIn_r _ [109, 45, 110, 1, 111, 112, 113, 5, 114, 115, 116, 12, 13, 78, 79, 80, 81, 18, 19, 82, 83, 84, 85, 86, 87, 117, 118, 119, 120, 121, 122, 123, 124, 125, 7, 20, 27, 28, 29, 24, 30, 31, 32, 33, 34, 35, 22, 23, 25, 26, 126, 127, 128, 129, 130, 131, 132, 133, 134, 40, 135, 136, 137, 138, 139, 106, 140, 141, 142, 143, 144, 145, 146, 147, 148, 149, 150, 151, 152, 153, 154, 155, 14, 15, 16, 17, 21, 156, 157, 158, 159, 77, 160, 161, 162, 163, 164, 88, 89, 90, 91, 92, 93, 94, 67, 95, 70, 96, 97, 98, 99, 100, 101, 65, 66, 68, 69, 165, 166, 167, 168, 169, 170, 171, 172, 173, 174, 175, 176, 177, 178, 179, 180, 181, 182, 183, 184, 185, 186, 187, 188, 189, 190, 191, 192, 193, 194, 195, 196, 197, 198, 199, 200, 201, 202, 203, 204, 205, 206, 207, 208, 209, 210, 211, 212, 213, 214, 215, 216, 217, 218, 219, 220, 221, 222, 223, 224, 225, 226, 227, 228, 229, 230, 231, 232, 233, 234, 235, 236, 237, 238, 239, 240, 241, 242, 243, 244, 245, 246, 247, 248, 249, 250, 251, 252, 253, 254, 255, 256, 257, 258, 259, 260, 261, 262, 263, 264, 265, 56, 57, 58, 59, 266, 267, 268, 269, 270, 271, 272, 273, 274, 275, 276, 277, 278, 279, 280, 281, 282, 283, 284, 285, 286, 287, 288, 289, 290, 291, 292, 293, 294, 295, 296, 297, 298, 299, 300, 301, 302, 303, 304, 305, 306, 307, 308, 309, 310, 311, 312, 313, 314, 315, 316, 317, 318, 319, 320, 321, 322, 323] rfl (by decide +kernel)) (goodIn_sub (fun _ h => List.mem_cons_of_mem _ (List.mem_append_right _ h)) (by decide +kernel))) (goodIn_sub (fun _ h => List.mem_cons_of_mem _ (List.mem_append_left _ (List.mem_append_left _ (List.mem_append_right _ h)))) (by decide +kernel))
set_option maxRecDepth 200000 in
theorem gL_areLightsSo_L_does : GoodIn wsL_areLightsSo (va_wsS RL 81 yL_does wsL_does) := goodIn_app (goodIn_of _ (by decide +kernel)) ggL_areLightsSo_L_does
theorem dL_areLightsSo_0 : decode cL_areLightsSo 0 = .ok (.iconst 0, 1) := by decide +kernel
theorem dL_areLightsSo_1 : decode cL_areLightsSo 1 = .ok (.istore_n 1, 1) := by decide +kernel
theorem dL_areLightsSo_2 : decode cL_areLightsSo 2 = .ok (.iconst 0, 1) := by decide +kernel
theorem dL_areLightsSo_3 : decode cL_areLightsSo 3 = .ok (.istore_n 2, 1) := by decide +kernel
theorem dL_areLightsSo_4 : decode cL_areLightsSo 4 = .ok (.iconst 0, 1) := by decide +kernel
theorem dL_areLightsSo_5 : decode cL_areLightsSo 5 = .ok (.istore_n 3, 1) := by decide +kernel
theorem dL_areLightsSo_6 : decode cL_areLightsSo 6 = .ok (.iconst 0, 1) := by decide +kernel
theorem dL_areLightsSo_7 : decode cL_areLightsSo 7 = .ok (.istore 4, 2) := by decide +kernel
theorem dL_areLightsSo_9 : decode cL_areLightsSo 9 = .ok (.iload 4, 2) := by decide +kernel
theorem dL_areLightsSo_11 : decode cL_areLightsSo 11 = .ok (.aload_n 0, 1) := by decide +kernel
theorem dL_areLightsSo_12 : decode cL_areLightsSo 12 = .ok (.invokevirtual 89, 3) := by decide +kernel
theorem dL_areLightsSo_15 : decode cL_areLightsSo 15 = .ok (.if_icmp .ge 299, 3) := by decide +kernel
theorem dL_areLightsSo_18 : decode cL_areLightsSo 18 = .ok (.aload_n 0, 1) := by decide +kernel
theorem dL_areLightsSo_19 : decode cL_areLightsSo 19 = .ok (.iload 4, 2) := by decide +kernel
theorem dL_areLightsSo_21 : decode cL_areLightsSo 21 = .ok (.invokevirtual 102, 3) := by decide +kernel
theorem dL_areLightsSo_24 : decode cL_areLightsSo 24 = .ok (.istore 5, 2) := by decide +kernel
theorem dL_areLightsSo_26 : decode cL_areLightsSo 26 = .ok (.iconst 0, 1) := by decide +kernel
theorem dL_areLightsSo_27 : decode cL_areLightsSo 27 = .ok (.istore 6, 2) := by decide +kernel
theorem dL_areLightsSo_29 : decode cL_areLightsSo 29 = .ok (.iload 5, 2) := by decide +kernel
theorem dL_areLightsSo_31 : decode cL_areLightsSo 31 = .ok (.ifCond .lt 85, 3) := by decide +kernel
theorem dL_areLightsSo_34 : decode cL_areLightsSo 34 = .ok (.iload 5, 2) := by decide +kernel
theorem dL_areLightsSo_36 : decode cL_areLightsSo 36 = .ok (.iconst 3, 1) := by decide +kernel
theorem dL_areLightsSo_37 : decode cL_areLightsSo 37 = .ok (.if_icmp .ge 79, 3) := by decide +kernel
theorem dL_areLightsSo_40 : decode cL_areLightsSo 40 = .ok (.iload 5, 2) := by decide +kernel
theorem dL_areLightsSo_42 : decode cL_areLightsSo 42 = .ok (.iconst 2, 1) := by decide +kernel
theorem dL_areLightsSo_43 : decode cL_areLightsSo 43 = .ok (.if_icmp .ne 7, 3) := by decide +kernel
theorem dL_areLightsSo_46 : decode cL_areLightsSo 46 = .ok (.iconst 1, 1) := by decide +kernel
theorem dL_areLightsSo_47 : decode cL_areLightsSo 47 = .ok (.goto 4, 3) := by decide +kernel
theorem dL_areLightsSo_50 : decode cL_areLightsSo 50 = .ok (.iconst 0, 1) := by decide +kernel
theorem dL_areLightsSo_51 : decode cL_areLightsSo 51 = .ok (.aload_n 0, 1) := by decide +kernel
theorem dL_areLightsSo_52 : decode cL_areLightsSo 52 = .ok (.iload 4, 2) := by decide +kernel
theorem dL_areLightsSo_54 : decode cL_areLightsSo 54 = .ok (.invokevirtual 105, 3) := by decide +kernel
theorem dL_areLightsSo_57 : decode cL_areLightsSo 57 = .ok (.ifCond .ne 7, 3) := by decide +kernel
theorem dL_areLightsSo_60 : decode cL_areLightsSo 60 = .ok (.iconst 1, 1) := by decide +kernel
theorem dL_areLightsSo_61 : decode cL_areLightsSo 61 = .ok (.goto 4, 3) := by decide +kernel
theorem dL_areLightsSo_64 : decode cL_areLightsSo 64 = .ok (.iconst 0, 1) := by decide +kernel
theorem dL_areLightsSo_65 : decode cL_areLightsSo 65 = .ok (.if_icmp .ne 51, 3) := by decide +kernel
theorem dL_areLightsSo_68 : decode cL_areLightsSo 68 = .ok (.aload_n 0, 1) := by decide +kernel
theorem dL_areLightsSo_69 : decode cL_areLightsSo 69 = .ok (.iload 4, 2) := by decide +kernel
theorem dL_areLightsSo_71 : decode cL_areLightsSo 71 = .ok (.invokevirtual 105, 3) := by decide +kernel
theorem dL_areLightsSo_74 : decode cL_areLightsSo 74 = .ok (.bipush 10, 2) := by decide +kernel
theorem dL_areLightsSo_76 : decode cL_areLightsSo 76 = .ok (.if_icmp .gt 40, 3) := by decide +kernel
theorem dL_areLightsSo_79 : decode cL_areLightsSo 79 = .ok (.iload 5, 2) := by decide +kernel
theorem dL_areLightsSo_81 : decode cL_areLightsSo 81 = .ok (.iconst 2, 1) := by decide +kernel
theorem dL_areLightsSo_82 : decode cL_areLightsSo 82 = .ok (.if_icmp .ne 7, 3) := by decide +kernel
theorem dL_areLightsSo_85 : decode cL_areLightsSo 85 = .ok (.iconst 1, 1) := by decide +kernel
theorem dL_areLightsSo_86 : decode cL_areLightsSo 86 = .ok (.goto 4, 3) := by decide +kernel
theorem dL_areLightsSo_89 : decode cL_areLightsSo 89 = .ok (.iconst 0, 1) := by decide +kernel
theorem dL_areLightsSo_90 : decode cL_areLightsSo 90 = .ok (.aload_n 0, 1) := by decide +kernel
theorem dL_areLightsSo_91 : decode cL_areLightsSo 91 = .ok (.iconst 0, 1) := by decide +kernel
theorem dL_areLightsSo_92 : decode cL_areLightsSo 92 = .ok (.iload 4, 2) := by decide +kernel
theorem dL_areLightsSo_94 : decode cL_areLightsSo 94 = .ok (.iconst 0, 1) := by decide +kernel
theorem dL_areLightsSo_95 : decode cL_areLightsSo 95 = .ok (.iconst 0, 1) := by decide +kernel
theorem dL_areLightsSo_96 : decode cL_areLightsSo 96 = .ok (.invokestatic 99, 3) := by decide +kernel
theorem dL_areLightsSo_99 : decode cL_areLightsSo 99 = .ok (.ldc 16, 2) := by decide +kernel
theorem dL_areLightsSo_101 : decode cL_areLightsSo 101 = .ok (.if_icmp .ne 7, 3) := by decide +kernel
theorem dL_areLightsSo_104 : decode cL_areLightsSo 104 = .ok (.iconst 1, 1) := by decide +kernel
theorem dL_areLightsSo_105 : decode cL_areLightsSo 105 = .ok (.goto 4, 3) := by decide +kernel
theorem dL_areLightsSo_108 : decode cL_areLightsSo 108 = .ok (.iconst 0, 1) := by decide +kernel
theorem dL_areLightsSo_109 : decode cL_areLightsSo 109 = .ok (.if_icmp .ne 7, 3) := by decide +kernel
theorem dL_areLightsSo_112 : decode cL_areLightsSo 112 = .ok (.iconst 1, 1) := by decide +kernel
theorem dL_areLightsSo_113 : decode cL_areLightsSo 113 = .ok (.goto 4, 3) := by decide +kernel
theorem dL_areLightsSo_116 : decode cL_areLightsSo 116 = .ok (.iconst 0, 1) := by decide +kernel
theorem dL_areLightsSo_117 : decode cL_areLightsSo 117 = .ok (.istore 7, 2) := by decide +kernel
theorem dL_areLightsSo_119 : decode cL_areLightsSo 119 = .ok (.iconst 0, 1) := by decide +kernel
theorem dL_areLightsSo_120 : decode cL_areLightsSo 120 = .ok (.istore 8, 2) := by decide +kernel
theorem dL_areLightsSo_122 : decode cL_areLightsSo 122 = .ok (.iload 8, 2) := by decide +kernel
theorem dL_areLightsSo_124 : decode cL_areLightsSo 124 = .ok (.iconst 2, 1) := by decide +kernel
theorem dL_areLightsSo_125 : decode cL_areLightsSo 125 = .ok (.if_icmp .ge 153, 3) := by decide +kernel
theorem dL_areLightsSo_128 : decode cL_areLightsSo 128 = .ok (.iload 7, 2) := by decide +kernel
theorem dL_areLightsSo_130 : decode cL_areLightsSo 130 = .ok (.ifCond .eq 148, 3) := by decide +kernel
theorem dL_areLightsSo_133 : decode cL_areLightsSo 133 = .ok (.aload_n 0, 1) := by decide +kernel
theorem dL_areLightsSo_134 : decode cL_areLightsSo 134 = .ok (.iconst 0, 1) := by decide +kernel
theorem dL_areLightsSo_135 : decode cL_areLightsSo 135 = .ok (.iload 4, 2) := by decide +kernel
theorem dL_areLightsSo_137 : decode cL_areLightsSo 137 = .ok (.iload 8, 2) := by decide +kernel
theorem dL_areLightsSo_139 : decode cL_areLightsSo 139 = .ok (.iconst 0, 1) := by decide +kernel
theorem dL_areLightsSo_140 : decode cL_areLightsSo 140 = .ok (.invokestatic 99, 3) := by decide +kernel
theorem dL_areLightsSo_143 : decode cL_areLightsSo 143 = .ok (.istore 9, 2) := by decide +kernel
theorem dL_areLightsSo_145 : decode cL_areLightsSo 145 = .ok (.iconst 0, 1) := by decide +kernel
theorem dL_areLightsSo_146 : decode cL_areLightsSo 146 = .ok (.istore 10, 2) := by decide +kernel
theorem dL_areLightsSo_148 : decode cL_areLightsSo 148 = .ok (.iload 10, 2) := by decide +kernel
theorem dL_areLightsSo_150 : decode cL_areLightsSo 150 = .ok (.iload 9, 2) := by decide +kernel
theorem dL_areLightsSo_152 : decode cL_areLightsSo 152 = .ok (.if_icmp .ge 80, 3) := by decide +kernel
theorem dL_areLightsSo_155 : decode cL_areLightsSo 155 = .ok (.iload 7, 2) := by decide +kernel
theorem dL_areLightsSo_157 : decode cL_areLightsSo 157 = .ok (.ifCond .eq 75, 3) := by decide +kernel
theorem dL_areLightsSo_160 : decode cL_areLightsSo 160 = .ok (.aload_n 0, 1) := by decide +kernel
theorem dL_areLightsSo_161 : decode cL_areLightsSo 161 = .ok (.iload 4, 2) := by decide +kernel
theorem dL_areLightsSo_163 : decode cL_areLightsSo 163 = .ok (.iload 8, 2) := by decide +kernel
theorem dL_areLightsSo_165 : decode cL_areLightsSo 165 = .ok (.iload 10, 2) := by decide +kernel
theorem dL_areLightsSo_167 : decode cL_areLightsSo 167 = .ok (.invokevirtual 55, 3) := by decide +kernel
theorem dL_areLightsSo_170 : decode cL_areLightsSo 170 = .ok (.istore 11, 2) := by decide +kernel
theorem dL_areLightsSo_172 : decode cL_areLightsSo 172 = .ok (.aload_n 0, 1) := by decide +kernel
theorem dL_areLightsSo_173 : decode cL_areLightsSo 173 = .ok (.iload 11, 2) := by decide +kernel
theorem dL_areLightsSo_175 : decode cL_areLightsSo 175 = .ok (.bipush 10, 2) := by decide +kernel
theorem dL_areLightsSo_177 : decode cL_areLightsSo 177 = .ok (.idiv, 1) := by decide +kernel
theorem dL_areLightsSo_178 : decode cL_areLightsSo 178 = .ok (.iload 11, 2) := by decide +kernel
theorem dL_areLightsSo_180 : decode cL_areLightsSo 180 = .ok (.bipush 10, 2) := by decide +kernel
theorem dL_areLightsSo_182 : decode cL_areLightsSo 182 = .ok (.irem, 1) := by decide +kernel
theorem dL_areLightsSo_183 : decode cL_areLightsSo 183 = .ok (.invokevirtual 58, 3) := by decide +kernel
theorem dL_areLightsSo_186 : decode cL_areLightsSo 186 = .ok (.iload 4, 2) := by decide +kernel
theorem dL_areLightsSo_188 : decode cL_areLightsSo 188 = .ok (.if_icmp .ne 20, 3) := by decide +kernel
theorem dL_areLightsSo_191 : decode cL_areLightsSo 191 = .ok (.iload 6, 2) := by decide +kernel
theorem dL_areLightsSo_193 : decode cL_areLightsSo 193 = .ok (.iload 11, 2) := by decide +kernel
theorem dL_areLightsSo_195 : decode cL_areLightsSo 195 = .ok (.bipush 10, 2) := by decide +kernel
theorem dL_areLightsSo_197 : decode cL_areLightsSo 197 = .ok (.idiv, 1) := by decide +kernel
theorem dL_areLightsSo_198 : decode cL_areLightsSo 198 = .ok (.ishr, 1) := by decide +kernel
theorem dL_areLightsSo_199 : decode cL_areLightsSo 199 = .ok (.iconst 1, 1) := by decide +kernel
theorem dL_areLightsSo_200 : decode cL_areLightsSo 200 = .ok (.iand, 1) := by decide +kernel
theorem dL_areLightsSo_201 : decode cL_areLightsSo 201 = .ok (.ifCond .ne 7, 3) := by decide +kernel
theorem dL_areLightsSo_204 : decode cL_areLightsSo 204 = .ok (.iconst 1, 1) := by decide +kernel
theorem dL_areLightsSo_205 : decode cL_areLightsSo 205 = .ok (.goto 4, 3) := by decide +kernel
theorem dL_areLightsSo_208 : decode cL_areLightsSo 208 = .ok (.iconst 0, 1) := by decide +kernel
theorem dL_areLightsSo_209 : decode cL_areLightsSo 209 = .ok (.istore 7, 2) := by decide +kernel
theorem dL_areLightsSo_211 : decode cL_areLightsSo 211 = .ok (.iload 6, 2) := by decide +kernel
theorem dL_areLightsSo_213 : decode cL_areLightsSo 213 = .ok (.iconst 1, 1) := by decide +kernel
theorem dL_areLightsSo_214 : decode cL_areLightsSo 214 = .ok (.iload 11, 2) := by decide +kernel
theorem dL_areLightsSo_216 : decode cL_areLightsSo 216 = .ok (.bipush 10, 2) := by decide +kernel
theorem dL_areLightsSo_218 : decode cL_areLightsSo 218 = .ok (.idiv, 1) := by decide +kernel
theorem dL_areLightsSo_219 : decode cL_areLightsSo 219 = .ok (.ishl, 1) := by decide +kernel
theorem dL_areLightsSo_220 : decode cL_areLightsSo 220 = .ok (.ior, 1) := by decide +kernel
theorem dL_areLightsSo_221 : decode cL_areLightsSo 221 = .ok (.istore 6, 2) := by decide +kernel
theorem dL_areLightsSo_223 : decode cL_areLightsSo 223 = .ok (.iinc 2 1, 3) := by decide +kernel
theorem dL_areLightsSo_226 : decode cL_areLightsSo 226 = .ok (.iinc 10 1, 3) := by decide +kernel
theorem dL_areLightsSo_229 : decode cL_areLightsSo 229 = .ok (.goto (-81), 3) := by decide +kernel
theorem dL_areLightsSo_232 : decode cL_areLightsSo 232 = .ok (.iload 7, 2) := by decide +kernel
theorem dL_areLightsSo_234 : decode cL_areLightsSo 234 = .ok (.ifCond .eq 35, 3) := by decide +kernel
theorem dL_areLightsSo_237 : decode cL_areLightsSo 237 = .ok (.iload 9, 2) := by decide +kernel
theorem dL_areLightsSo_239 : decode cL_areLightsSo 239 = .ok (.ldc 16, 2) := by decide +kernel
theorem dL_areLightsSo_241 : decode cL_areLightsSo 241 = .ok (.if_icmp .eq 24, 3) := by decide +kernel
theorem dL_areLightsSo_244 : decode cL_areLightsSo 244 = .ok (.iload 9, 2) := by decide +kernel
theorem dL_areLightsSo_246 : decode cL_areLightsSo 246 = .ok (.ifCond .le 23, 3) := by decide +kernel
theorem dL_areLightsSo_249 : decode cL_areLightsSo 249 = .ok (.aload_n 0, 1) := by decide +kernel
theorem dL_areLightsSo_250 : decode cL_areLightsSo 250 = .ok (.iconst 1, 1) := by decide +kernel
theorem dL_areLightsSo_251 : decode cL_areLightsSo 251 = .ok (.iload 4, 2) := by decide +kernel
theorem dL_areLightsSo_253 : decode cL_areLightsSo 253 = .ok (.iload 8, 2) := by decide +kernel
theorem dL_areLightsSo_255 : decode cL_areLightsSo 255 = .ok (.iload 9, 2) := by decide +kernel
theorem dL_areLightsSo_257 : decode cL_areLightsSo 257 = .ok (.invokestatic 99, 3) := by decide +kernel
theorem dL_areLightsSo_260 : decode cL_areLightsSo 260 = .ok (.ldc 16, 2) := by decide +kernel
theorem dL_areLightsSo_262 : decode cL_areLightsSo 262 = .ok (.if_icmp .ne 7, 3) := by decide +kernel
theorem dL_areLightsSo_265 : decode cL_areLightsSo 265 = .ok (.iconst 1, 1) := by decide +kernel
theorem dL_areLightsSo_266 : decode cL_areLightsSo 266 = .ok (.goto 4, 3) := by decide +kernel
theorem dL_areLightsSo_269 : decode cL_areLightsSo 269 = .ok (.iconst 0, 1) := by decide +kernel
theorem dL_areLightsSo_270 : decode cL_areLightsSo 270 = .ok (.istore 7, 2) := by decide +kernel
theorem dL_areLightsSo_272 : decode cL_areLightsSo 272 = .ok (.iinc 8 1, 3) := by decide +kernel
theorem dL_areLightsSo_275 : decode cL_areLightsSo 275 = .ok (.goto (-153), 3) := by decide +kernel
theorem dL_areLightsSo_278 : decode cL_areLightsSo 278 = .ok (.iload 7, 2) := by decide +kernel
theorem dL_areLightsSo_280 : decode cL_areLightsSo 280 = .ok (.ifCond .ne 5, 3) := by decide +kernel
theorem dL_areLightsSo_283 : decode cL_areLightsSo 283 = .ok (.iconst 0, 1) := by decide +kernel
theorem dL_areLightsSo_284 : decode cL_areLightsSo 284 = .ok (.ireturn, 1) := by decide +kernel
theorem dL_areLightsSo_285 : decode cL_areLightsSo 285 = .ok (.iload_n 1, 1) := by decide +kernel
theorem dL_areLightsSo_286 : decode cL_areLightsSo 286 = .ok (.iload 5, 2) := by decide +kernel
theorem dL_areLightsSo_288 : decode cL_areLightsSo 288 = .ok (.iconst 2, 1) := by decide +kernel
theorem dL_areLightsSo_289 : decode cL_areLightsSo 289 = .ok (.if_icmp .ge 7, 3) := by decide +kernel
theorem dL_areLightsSo_292 : decode cL_areLightsSo 292 = .ok (.iconst 1, 1) := by decide +kernel
theorem dL_areLightsSo_293 : decode cL_areLightsSo 293 = .ok (.goto 4, 3) := by decide +kernel
theorem dL_areLightsSo_296 : decode cL_areLightsSo 296 = .ok (.iconst 0, 1) := by decide +kernel
theorem dL_areLightsSo_297 : decode cL_areLightsSo 297 = .ok (.iadd, 1) := by decide +kernel
theorem dL_areLightsSo_298 : decode cL_areLightsSo 298 = .ok (.istore_n 1, 1) := by decide +kernel
theorem dL_areLightsSo_299 : decode cL_areLightsSo 299 = .ok (.iload_n 3, 1) := by decide +kernel
theorem dL_areLightsSo_300 : decode cL_areLightsSo 300 = .ok (.aload_n 0, 1) := by decide +kernel
theorem dL_areLightsSo_301 : decode cL_areLightsSo 301 = .ok (.iload 4, 2) := by decide +kernel
theorem dL_areLightsSo_303 : decode cL_areLightsSo 303 = .ok (.invokevirtual 105, 3) := by decide +kernel
theorem dL_areLightsSo_306 : decode cL_areLightsSo 306 = .ok (.iadd, 1) := by decide +kernel
theorem dL_areLightsSo_307 : decode cL_areLightsSo 307 = .ok (.istore_n 3, 1) := by decide +kernel
theorem dL_areLightsSo_308 : decode cL_areLightsSo 308 = .ok (.iinc 4 1, 3) := by decide +kernel
theorem dL_areLightsSo_311 : decode cL_areLightsSo 311 = .ok (.goto (-302), 3) := by decide +kernel
theorem dL_areLightsSo_314 : decode cL_areLightsSo 314 = .ok (.iconst 0, 1) := by decide +kernel
theorem dL_areLightsSo_315 : decode cL_areLightsSo 315 = .ok (.istore 4, 2) := by decide +kernel
theorem dL_areLightsSo_317 : decode cL_areLightsSo 317 = .ok (.iconst 0, 1) := by decide +kernel
theorem dL_areLightsSo_318 : decode cL_areLightsSo 318 = .ok (.istore 5, 2) := by decide +kernel
theorem dL_areLightsSo_320 : decode cL_areLightsSo 320 = .ok (.iload 5, 2) := by decide +kernel
theorem dL_areLightsSo_322 : decode cL_areLightsSo 322 = .ok (.aload_n 0, 1) := by decide +kernel
theorem dL_areLightsSo_323 : decode cL_areLightsSo 323 = .ok (.invokevirtual 78, 3) := by decide +kernel
theorem dL_areLightsSo_326 : decode cL_areLightsSo 326 = .ok (.if_icmp .ge 59, 3) := by decide +kernel
theorem dL_areLightsSo_329 : decode cL_areLightsSo 329 = .ok (.aload_n 0, 1) := by decide +kernel
theorem dL_areLightsSo_330 : decode cL_areLightsSo 330 = .ok (.iconst 3, 1) := by decide +kernel
theorem dL_areLightsSo_331 : decode cL_areLightsSo 331 = .ok (.iload 5, 2) := by decide +kernel
theorem dL_areLightsSo_333 : decode cL_areLightsSo 333 = .ok (.invokestatic 81, 3) := by decide +kernel
theorem dL_areLightsSo_336 : decode cL_areLightsSo 336 = .ok (.istore 6, 2) := by decide +kernel
theorem dL_areLightsSo_338 : decode cL_areLightsSo 338 = .ok (.iload 4, 2) := by decide +kernel
theorem dL_areLightsSo_340 : decode cL_areLightsSo 340 = .ok (.iload 6, 2) := by decide +kernel
theorem dL_areLightsSo_342 : decode cL_areLightsSo 342 = .ok (.ifCond .lt 7, 3) := by decide +kernel
theorem dL_areLightsSo_345 : decode cL_areLightsSo 345 = .ok (.iconst 1, 1) := by decide +kernel
theorem dL_areLightsSo_346 : decode cL_areLightsSo 346 = .ok (.goto 4, 3) := by decide +kernel
theorem dL_areLightsSo_349 : decode cL_areLightsSo 349 = .ok (.iconst 0, 1) := by decide +kernel
theorem dL_areLightsSo_350 : decode cL_areLightsSo 350 = .ok (.iadd, 1) := by decide +kernel
theorem dL_areLightsSo_351 : decode cL_areLightsSo 351 = .ok (.istore 4, 2) := by decide +kernel
theorem dL_areLightsSo_353 : decode cL_areLightsSo 353 = .ok (.iload 6, 2) := by decide +kernel
theorem dL_areLightsSo_355 : decode cL_areLightsSo 355 = .ok (.aload_n 0, 1) := by decide +kernel
theorem dL_areLightsSo_356 : decode cL_areLightsSo 356 = .ok (.invokevirtual 89, 3) := by decide +kernel
theorem dL_areLightsSo_359 : decode cL_areLightsSo 359 = .ok (.if_icmp .ge 18, 3) := by decide +kernel
theorem dL_areLightsSo_362 : decode cL_areLightsSo 362 = .ok (.iload 6, 2) := by decide +kernel
theorem dL_areLightsSo_364 : decode cL_areLightsSo 364 = .ok (.ifCond .lt 15, 3) := by decide +kernel
theorem dL_areLightsSo_367 : decode cL_areLightsSo 367 = .ok (.aload_n 0, 1) := by decide +kernel
theorem dL_areLightsSo_368 : decode cL_areLightsSo 368 = .ok (.iload 6, 2) := by decide +kernel
theorem dL_areLightsSo_370 : decode cL_areLightsSo 370 = .ok (.invokevirtual 102, 3) := by decide +kernel
theorem dL_areLightsSo_373 : decode cL_areLightsSo 373 = .ok (.iconst 2, 1) := by decide +kernel
theorem dL_areLightsSo_374 : decode cL_areLightsSo 374 = .ok (.if_icmp .ne 5, 3) := by decide +kernel
theorem dL_areLightsSo_377 : decode cL_areLightsSo 377 = .ok (.iconst 0, 1) := by decide +kernel
theorem dL_areLightsSo_378 : decode cL_areLightsSo 378 = .ok (.ireturn, 1) := by decide +kernel
theorem dL_areLightsSo_379 : decode cL_areLightsSo 379 = .ok (.iinc 5 1, 3) := by decide +kernel
theorem dL_areLightsSo_382 : decode cL_areLightsSo 382 = .ok (.goto (-62), 3) := by decide +kernel
theorem dL_areLightsSo_385 : decode cL_areLightsSo 385 = .ok (.iconst 0, 1) := by decide +kernel
theorem dL_areLightsSo_386 : decode cL_areLightsSo 386 = .ok (.istore 5, 2) := by decide +kernel
theorem dL_areLightsSo_388 : decode cL_areLightsSo 388 = .ok (.iload 5, 2) := by decide +kernel
theorem dL_areLightsSo_390 : decode cL_areLightsSo 390 = .ok (.bipush 14, 2) := by decide +kernel
theorem dL_areLightsSo_392 : decode cL_areLightsSo 392 = .ok (.if_icmp .ge 46, 3) := by decide +kernel
theorem dL_areLightsSo_395 : decode cL_areLightsSo 395 = .ok (.iconst 0, 1) := by decide +kernel
theorem dL_areLightsSo_396 : decode cL_areLightsSo 396 = .ok (.istore 6, 2) := by decide +kernel
theorem dL_areLightsSo_398 : decode cL_areLightsSo 398 = .ok (.iload 6, 2) := by decide +kernel
theorem dL_areLightsSo_400 : decode cL_areLightsSo 400 = .ok (.bipush 8, 2) := by decide +kernel
theorem dL_areLightsSo_402 : decode cL_areLightsSo 402 = .ok (.if_icmp .ge 30, 3) := by decide +kernel
theorem dL_areLightsSo_405 : decode cL_areLightsSo 405 = .ok (.iload_n 2, 1) := by decide +kernel
theorem dL_areLightsSo_406 : decode cL_areLightsSo 406 = .ok (.aload_n 0, 1) := by decide +kernel
theorem dL_areLightsSo_407 : decode cL_areLightsSo 407 = .ok (.iconst 2, 1) := by decide +kernel
theorem dL_areLightsSo_408 : decode cL_areLightsSo 408 = .ok (.iload 5, 2) := by decide +kernel
theorem dL_areLightsSo_410 : decode cL_areLightsSo 410 = .ok (.iload 6, 2) := by decide +kernel
theorem dL_areLightsSo_412 : decode cL_areLightsSo 412 = .ok (.iconst 0, 1) := by decide +kernel
theorem dL_areLightsSo_413 : decode cL_areLightsSo 413 = .ok (.invokestatic 99, 3) := by decide +kernel
theorem dL_areLightsSo_416 : decode cL_areLightsSo 416 = .ok (.ifCond .lt 7, 3) := by decide +kernel
theorem dL_areLightsSo_419 : decode cL_areLightsSo 419 = .ok (.iconst 1, 1) := by decide +kernel
theorem dL_areLightsSo_420 : decode cL_areLightsSo 420 = .ok (.goto 4, 3) := by decide +kernel
theorem dL_areLightsSo_423 : decode cL_areLightsSo 423 = .ok (.iconst 0, 1) := by decide +kernel
theorem dL_areLightsSo_424 : decode cL_areLightsSo 424 = .ok (.isub, 1) := by decide +kernel
theorem dL_areLightsSo_425 : decode cL_areLightsSo 425 = .ok (.istore_n 2, 1) := by decide +kernel
theorem dL_areLightsSo_426 : decode cL_areLightsSo 426 = .ok (.iinc 6 1, 3) := by decide +kernel
theorem dL_areLightsSo_429 : decode cL_areLightsSo 429 = .ok (.goto (-31), 3) := by decide +kernel
theorem dL_areLightsSo_432 : decode cL_areLightsSo 432 = .ok (.iinc 5 1, 3) := by decide +kernel
theorem dL_areLightsSo_435 : decode cL_areLightsSo 435 = .ok (.goto (-47), 3) := by decide +kernel
theorem dL_areLightsSo_438 : decode cL_areLightsSo 438 = .ok (.iload_n 1, 1) := by decide +kernel
theorem dL_areLightsSo_439 : decode cL_areLightsSo 439 = .ok (.bipush 12, 2) := by decide +kernel
theorem dL_areLightsSo_441 : decode cL_areLightsSo 441 = .ok (.if_icmp .gt 32, 3) := by decide +kernel
theorem dL_areLightsSo_444 : decode cL_areLightsSo 444 = .ok (.iload_n 2, 1) := by decide +kernel
theorem dL_areLightsSo_445 : decode cL_areLightsSo 445 = .ok (.ifCond .ne 28, 3) := by decide +kernel
theorem dL_areLightsSo_448 : decode cL_areLightsSo 448 = .ok (.iload 4, 2) := by decide +kernel
theorem dL_areLightsSo_450 : decode cL_areLightsSo 450 = .ok (.iload_n 1, 1) := by decide +kernel
theorem dL_areLightsSo_451 : decode cL_areLightsSo 451 = .ok (.if_icmp .lt 22, 3) := by decide +kernel
theorem dL_areLightsSo_454 : decode cL_areLightsSo 454 = .ok (.iload_n 3, 1) := by decide +kernel
theorem dL_areLightsSo_455 : decode cL_areLightsSo 455 = .ok (.iload 4, 2) := by decide +kernel
theorem dL_areLightsSo_457 : decode cL_areLightsSo 457 = .ok (.if_icmp .lt 16, 3) := by decide +kernel
theorem dL_areLightsSo_460 : decode cL_areLightsSo 460 = .ok (.iload_n 3, 1) := by decide +kernel
theorem dL_areLightsSo_461 : decode cL_areLightsSo 461 = .ok (.bipush 10, 2) := by decide +kernel
theorem dL_areLightsSo_463 : decode cL_areLightsSo 463 = .ok (.iload 4, 2) := by decide +kernel
theorem dL_areLightsSo_465 : decode cL_areLightsSo 465 = .ok (.imul, 1) := by decide +kernel
theorem dL_areLightsSo_466 : decode cL_areLightsSo 466 = .ok (.if_icmp .gt 7, 3) := by decide +kernel
theorem dL_areLightsSo_469 : decode cL_areLightsSo 469 = .ok (.iconst 1, 1) := by decide +kernel
theorem dL_areLightsSo_470 : decode cL_areLightsSo 470 = .ok (.goto 4, 3) := by decide +kernel
theorem dL_areLightsSo_473 : decode cL_areLightsSo 473 = .ok (.iconst 0, 1) := by decide +kernel
theorem dL_areLightsSo_474 : decode cL_areLightsSo 474 = .ok (.ireturn, 1) := by decide +kernel
set_option maxRecDepth 200000 in
theorem ggL_isNeededSo_X5_lights : GoodIn wsL_isNeededSo wsX5_lights := goodIn_r _ [5, 6, 136, 137, 138, 139, 140, 141, 142, 143] rfl (by decide +kernel)
set_option maxRecDepth 200000 in
theorem gL_isNeededSo_X5_lights : GoodIn wsL_isNeededSo (wsV RL 89 RX5 yX5_lights wsX5_lights) := goodIn_app (goodIn_of _ (by decide +kernel)) ggL_isNeededSo_X5_lights
set_option maxRecDepth 200000 in
theorem ggL_isNeededSo_X5_state : GoodIn wsL_isNeededSo wsX5_state := goodIn_ca (goodIn_r _ [10, 11, 12, 13, 14, 15, 4, 16, 17, 18, 6, 19, 20, 21, 22, 23, 24, 25, 26, 27, 28, 29, 30, 31, 32, 33, 34, 136, 137, 138, 139, 140, 141, 142, 143, 144, 145, 146, 147, 148, 149, 150, 151, 152, 153, 154, 155, 156, 157, 158, 159, 160, 161, 162, 163] rfl (by decide +kernel)) (goodIn_sub (fun _ h => List.mem_cons_of_mem _ (List.mem_append_left _ (List.mem_append_right _ h))) (by decide +kernel))
set_option maxRecDepth 200000 in
theorem gL_isNeededSo_X5_state : GoodIn wsL_isNeededSo (wsV RL 102 RX5 yX5_state wsX5_state) := goodIn_app (goodIn_of _ (by decide +kernel)) ggL_isNeededSo_X5_state
set_option maxRecDepth 200000 in
theorem ggL_isNeededSo_L_looks : GoodIn wsL_isNeededSo wsL_looks := goodIn_ca (goodIn_ca (goodIn_r _ [38, 39, 40, 41, 42, 43, 44, 4, 45, 46, 47, 48, 49, 50, 17, 18, 13, 14, 15, 16, 6, 19, 51, 52, 53, 23, 54, 30, 32, 33, 34, 21, 22, 24, 25, 55, 56, 57, 58, 59, 60, 61, 62, 63, 64, 65, 66, 67, 68, 69, 70, 71, 11, 72, 73, 74, 75, 76, 77, 78, 79, 80, 81, 82, 83, 84, 85, 86, 87, 88, 89, 90, 91, 92, 93, 94, 95, 96, 159, 160, 161, 162, 163, 136, 137, 138, 139, 140, 141, 142, 143, 152, 153, 154, 155, 156, 157, 158, 144, 145, 146, 147, 148, 149, 150, 151] rfl (by decide +kernel)) (goodIn_sub (fun _ h => List.mem_cons_of_mem _ (List.mem_append_left _ (List.mem_append_right _ h))) (by decide +kernel))) (goodIn_sub (fun _ h => List.mem_cons_of_mem _ (List.mem_append_right _ h)) (by decide +kernel))
set_option maxRecDepth 200000 in
theorem gL_isNeededSo_L_looks : GoodIn wsL_isNeededSo (va_wsS RL 99 yL_looks wsL_looks) := goodIn_app (goodIn_of _ (by decide +kernel)) ggL_isNeededSo_L_looks
set_option maxRecDepth 200000 in
theorem ggL_isNeededSo_X5_channel : GoodIn wsL_isNeededSo wsX5_channel := goodIn_ca (goodIn_r _ [58, 17, 18, 46, 47, 48, 49, 4, 50, 13, 14, 15, 16, 6, 19, 51, 52, 53, 23, 54, 30, 32, 33, 34, 21, 22, 24, 25, 59, 60, 61, 62, 63, 64, 65, 159, 160, 161, 162, 163, 136, 137, 138, 139, 140, 141, 142, 143, 152, 153, 154, 155, 156, 157, 158] rfl (by decide +kernel)) (goodIn_sub (fun _ h => List.mem_cons_of_mem _ (List.mem_append_left _ (List.mem_append_right _ h))) (by decide +kernel))
set_option maxRecDepth 200000 in
theorem gL_isNeededSo_X5_channel : GoodIn wsL_isNeededSo (wsV RL 55 RX5 yX5_channel wsX5_channel) := goodIn_app (goodIn_of _ (by decide +kernel)) ggL_isNeededSo_X5_channel
set_option maxRecDepth 200000 in
theorem ggL_isNeededSo_X5_wavelengthsNeeded : GoodIn wsL_isNeededSo wsX5_wavelengthsNeeded := goodIn_r _ [100, 101, 6, 19, 102, 103, 104, 105, 106, 107, 108, 109, 20, 21, 22, 23, 24, 25, 110, 111, 112, 113, 114, 115, 116, 117, 118, 119, 120, 121, 122, 123, 124, 125, 126, 127, 128, 129, 130, 131, 132, 133, 134, 135, 136, 137, 138, 139, 140, 141, 142, 143, 152, 153, 154, 155, 156, 157, 158, 159, 160, 161, 162, 163, 164, 165, 166] rfl (by decide +kernel)
set_option maxRecDepth 200000 in
theorem gL_isNeededSo_X5_wavelengthsNeeded : GoodIn wsL_isNeededSo (wsV RL 108 RX5 yX5_wavelengthsNeeded wsX5_wavelengthsNeeded) := goodIn_app (goodIn_of _ (by decide +kernel)) ggL_isNeededSo_X5_wavelengthsNeeded
theorem dL_isNeededSo_0 : decode cL_isNeededSo 0 = .ok (.iconst 0, 1) := by decide +kernel
theorem dL_isNeededSo_1 : decode cL_isNeededSo 1 = .ok (.istore_n 1, 1) := by decide +kernel
theorem dL_isNeededSo_2 : decode cL_isNeededSo 2 = .ok (.iconst 0, 1) := by decide +kernel
theorem dL_isNeededSo_3 : decode cL_isNeededSo 3 = .ok (.istore_n 2, 1) := by decide +kernel
theorem dL_isNeededSo_4 : decode cL_isNeededSo 4 = .ok (.iconst 0, 1) := by decide +kernel
theorem dL_isNeededSo_5 : decode cL_isNeededSo 5 = .ok (.istore_n 3, 1) := by decide +kernel
theorem dL_isNeededSo_6 : decode cL_isNeededSo 6 = .ok (.iload_n 3, 1) := by decide +kernel
theorem dL_isNeededSo_7 : decode cL_isNeededSo 7 = .ok (.aload_n 0, 1) := by decide +kernel
theorem dL_isNeededSo_8 : decode cL_isNeededSo 8 = .ok (.invokevirtual 89, 3) := by decide +kernel
theorem dL_isNeededSo_11 : decode cL_isNeededSo 11 = .ok (.if_icmp .ge 26, 3) := by decide +kernel
theorem dL_isNeededSo_14 : decode cL_isNeededSo 14 = .ok (.iload_n 1, 1) := by decide +kernel
theorem dL_isNeededSo_15 : decode cL_isNeededSo 15 = .ok (.aload_n 0, 1) := by decide +kernel
theorem dL_isNeededSo_16 : decode cL_isNeededSo 16 = .ok (.iload_n 3, 1) := by decide +kernel
theorem dL_isNeededSo_17 : decode cL_isNeededSo 17 = .ok (.invokevirtual 102, 3) := by decide +kernel
theorem dL_isNeededSo_20 : decode cL_isNeededSo 20 = .ok (.iconst 2, 1) := by decide +kernel
theorem dL_isNeededSo_21 : decode cL_isNeededSo 21 = .ok (.if_icmp .ge 7, 3) := by decide +kernel
theorem dL_isNeededSo_24 : decode cL_isNeededSo 24 = .ok (.iconst 1, 1) := by decide +kernel
theorem dL_isNeededSo_25 : decode cL_isNeededSo 25 = .ok (.goto 4, 3) := by decide +kernel
theorem dL_isNeededSo_28 : decode cL_isNeededSo 28 = .ok (.iconst 0, 1) := by decide +kernel
theorem dL_isNeededSo_29 : decode cL_isNeededSo 29 = .ok (.iadd, 1) := by decide +kernel
theorem dL_isNeededSo_30 : decode cL_isNeededSo 30 = .ok (.istore_n 1, 1) := by decide +kernel
theorem dL_isNeededSo_31 : decode cL_isNeededSo 31 = .ok (.iinc 3 1, 3) := by decide +kernel
theorem dL_isNeededSo_34 : decode cL_isNeededSo 34 = .ok (.goto (-28), 3) := by decide +kernel
theorem dL_isNeededSo_37 : decode cL_isNeededSo 37 = .ok (.iconst 0, 1) := by decide +kernel
theorem dL_isNeededSo_38 : decode cL_isNeededSo 38 = .ok (.istore_n 3, 1) := by decide +kernel
theorem dL_isNeededSo_39 : decode cL_isNeededSo 39 = .ok (.iload_n 3, 1) := by decide +kernel
theorem dL_isNeededSo_40 : decode cL_isNeededSo 40 = .ok (.bipush 14, 2) := by decide +kernel
theorem dL_isNeededSo_42 : decode cL_isNeededSo 42 = .ok (.if_icmp .ge 92, 3) := by decide +kernel
theorem dL_isNeededSo_45 : decode cL_isNeededSo 45 = .ok (.iconst 0, 1) := by decide +kernel
theorem dL_isNeededSo_46 : decode cL_isNeededSo 46 = .ok (.istore 4, 2) := by decide +kernel
theorem dL_isNeededSo_48 : decode cL_isNeededSo 48 = .ok (.iconst 0, 1) := by decide +kernel
theorem dL_isNeededSo_49 : decode cL_isNeededSo 49 = .ok (.istore 5, 2) := by decide +kernel
theorem dL_isNeededSo_51 : decode cL_isNeededSo 51 = .ok (.iload 5, 2) := by decide +kernel
theorem dL_isNeededSo_53 : decode cL_isNeededSo 53 = .ok (.aload_n 0, 1) := by decide +kernel
theorem dL_isNeededSo_54 : decode cL_isNeededSo 54 = .ok (.invokevirtual 89, 3) := by decide +kernel
theorem dL_isNeededSo_57 : decode cL_isNeededSo 57 = .ok (.if_icmp .ge 58, 3) := by decide +kernel
theorem dL_isNeededSo_60 : decode cL_isNeededSo 60 = .ok (.iconst 0, 1) := by decide +kernel
theorem dL_isNeededSo_61 : decode cL_isNeededSo 61 = .ok (.istore 6, 2) := by decide +kernel
theorem dL_isNeededSo_63 : decode cL_isNeededSo 63 = .ok (.iload 6, 2) := by decide +kernel
theorem dL_isNeededSo_65 : decode cL_isNeededSo 65 = .ok (.aload_n 0, 1) := by decide +kernel
theorem dL_isNeededSo_66 : decode cL_isNeededSo 66 = .ok (.iconst 0, 1) := by decide +kernel
theorem dL_isNeededSo_67 : decode cL_isNeededSo 67 = .ok (.iload 5, 2) := by decide +kernel
theorem dL_isNeededSo_69 : decode cL_isNeededSo 69 = .ok (.iconst 0, 1) := by decide +kernel
theorem dL_isNeededSo_70 : decode cL_isNeededSo 70 = .ok (.iconst 0, 1) := by decide +kernel
theorem dL_isNeededSo_71 : decode cL_isNeededSo 71 = .ok (.invokestatic 99, 3) := by decide +kernel
theorem dL_isNeededSo_74 : decode cL_isNeededSo 74 = .ok (.if_icmp .ge 35, 3) := by decide +kernel
theorem dL_isNeededSo_77 : decode cL_isNeededSo 77 = .ok (.iload 4, 2) := by decide +kernel
theorem dL_isNeededSo_79 : decode cL_isNeededSo 79 = .ok (.aload_n 0, 1) := by decide +kernel
theorem dL_isNeededSo_80 : decode cL_isNeededSo 80 = .ok (.iload 5, 2) := by decide +kernel
theorem dL_isNeededSo_82 : decode cL_isNeededSo 82 = .ok (.iconst 0, 1) := by decide +kernel
theorem dL_isNeededSo_83 : decode cL_isNeededSo 83 = .ok (.iload 6, 2) := by decide +kernel
theorem dL_isNeededSo_85 : decode cL_isNeededSo 85 = .ok (.invokevirtual 55, 3) := by decide +kernel
theorem dL_isNeededSo_88 : decode cL_isNeededSo 88 = .ok (.bipush 10, 2) := by decide +kernel
theorem dL_isNeededSo_90 : decode cL_isNeededSo 90 = .ok (.idiv, 1) := by decide +kernel
theorem dL_isNeededSo_91 : decode cL_isNeededSo 91 = .ok (.iload_n 3, 1) := by decide +kernel
theorem dL_isNeededSo_92 : decode cL_isNeededSo 92 = .ok (.if_icmp .ne 7, 3) := by decide +kernel
theorem dL_isNeededSo_95 : decode cL_isNeededSo 95 = .ok (.iconst 1, 1) := by decide +kernel
theorem dL_isNeededSo_96 : decode cL_isNeededSo 96 = .ok (.goto 4, 3) := by decide +kernel
theorem dL_isNeededSo_99 : decode cL_isNeededSo 99 = .ok (.iconst 0, 1) := by decide +kernel
theorem dL_isNeededSo_100 : decode cL_isNeededSo 100 = .ok (.iadd, 1) := by decide +kernel
theorem dL_isNeededSo_101 : decode cL_isNeededSo 101 = .ok (.istore 4, 2) := by decide +kernel
theorem dL_isNeededSo_103 : decode cL_isNeededSo 103 = .ok (.iinc 6 1, 3) := by decide +kernel
theorem dL_isNeededSo_106 : decode cL_isNeededSo 106 = .ok (.goto (-43), 3) := by decide +kernel
theorem dL_isNeededSo_109 : decode cL_isNeededSo 109 = .ok (.iinc 5 1, 3) := by decide +kernel
theorem dL_isNeededSo_112 : decode cL_isNeededSo 112 = .ok (.goto (-61), 3) := by decide +kernel
theorem dL_isNeededSo_115 : decode cL_isNeededSo 115 = .ok (.iload 4, 2) := by decide +kernel
theorem dL_isNeededSo_117 : decode cL_isNeededSo 117 = .ok (.iload_n 2, 1) := by decide +kernel
theorem dL_isNeededSo_118 : decode cL_isNeededSo 118 = .ok (.if_icmp .le 8, 3) := by decide +kernel
theorem dL_isNeededSo_121 : decode cL_isNeededSo 121 = .ok (.iload 4, 2) := by decide +kernel
theorem dL_isNeededSo_123 : decode cL_isNeededSo 123 = .ok (.goto 4, 3) := by decide +kernel
theorem dL_isNeededSo_126 : decode cL_isNeededSo 126 = .ok (.iload_n 2, 1) := by decide +kernel
theorem dL_isNeededSo_127 : decode cL_isNeededSo 127 = .ok (.istore_n 2, 1) := by decide +kernel
theorem dL_isNeededSo_128 : decode cL_isNeededSo 128 = .ok (.iinc 3 1, 3) := by decide +kernel
theorem dL_isNeededSo_131 : decode cL_isNeededSo 131 = .ok (.goto (-92), 3) := by decide +kernel
theorem dL_isNeededSo_134 : decode cL_isNeededSo 134 = .ok (.aload_n 0, 1) := by decide +kernel
theorem dL_isNeededSo_135 : decode cL_isNeededSo 135 = .ok (.invokevirtual 108, 3) := by decide +kernel
theorem dL_isNeededSo_138 : decode cL_isNeededSo 138 = .ok (.istore_n 3, 1) := by decide +kernel
theorem dL_isNeededSo_139 : decode cL_isNeededSo 139 = .ok (.iload_n 3, 1) := by decide +kernel
theorem dL_isNeededSo_140 : decode cL_isNeededSo 140 = .ok (.iload_n 2, 1) := by decide +kernel
theorem dL_isNeededSo_141 : decode cL_isNeededSo 141 = .ok (.if_icmp .lt 33, 3) := by decide +kernel
theorem dL_isNeededSo_144 : decode cL_isNeededSo 144 = .ok (.iload_n 3, 1) := by decide +kernel
theorem dL_isNeededSo_145 : decode cL_isNeededSo 145 = .ok (.iload_n 1, 1) := by decide +kernel
theorem dL_isNeededSo_146 : decode cL_isNeededSo 146 = .ok (.if_icmp .gt 28, 3) := by decide +kernel
theorem dL_isNeededSo_149 : decode cL_isNeededSo 149 = .ok (.iload_n 3, 1) := by decide +kernel
theorem dL_isNeededSo_150 : decode cL_isNeededSo 150 = .ok (.ifCond .le 7, 3) := by decide +kernel
theorem dL_isNeededSo_153 : decode cL_isNeededSo 153 = .ok (.iconst 1, 1) := by decide +kernel
theorem dL_isNeededSo_154 : decode cL_isNeededSo 154 = .ok (.goto 4, 3) := by decide +kernel
theorem dL_isNeededSo_157 : decode cL_isNeededSo 157 = .ok (.iconst 0, 1) := by decide +kernel
theorem dL_isNeededSo_158 : decode cL_isNeededSo 158 = .ok (.iload_n 1, 1) := by decide +kernel
theorem dL_isNeededSo_159 : decode cL_isNeededSo 159 = .ok (.ifCond .le 7, 3) := by decide +kernel
theorem dL_isNeededSo_162 : decode cL_isNeededSo 162 = .ok (.iconst 1, 1) := by decide +kernel
theorem dL_isNeededSo_163 : decode cL_isNeededSo 163 = .ok (.goto 4, 3) := by decide +kernel
theorem dL_isNeededSo_166 : decode cL_isNeededSo 166 = .ok (.iconst 0, 1) := by decide +kernel
theorem dL_isNeededSo_167 : decode cL_isNeededSo 167 = .ok (.if_icmp .ne 7, 3) := by decide +kernel
theorem dL_isNeededSo_170 : decode cL_isNeededSo 170 = .ok (.iconst 1, 1) := by decide +kernel
theorem dL_isNeededSo_171 : decode cL_isNeededSo 171 = .ok (.goto 4, 3) := by decide +kernel
theorem dL_isNeededSo_174 : decode cL_isNeededSo 174 = .ok (.iconst 0, 1) := by decide +kernel
theorem dL_isNeededSo_175 : decode cL_isNeededSo 175 = .ok (.ireturn, 1) := by decide +kernel
set_option maxRecDepth 200000 in
theorem ggL_isForetoldSo_L_newLength : GoodIn wsL_isForetoldSo wsL_newLength := goodIn_ca (goodIn_ca (goodIn_r _ [4, 5, 6, 7, 8, 9, 10, 11, 12, 13, 14, 15, 16, 17, 18, 19, 20, 21, 22, 23, 24, 25, 26, 27, 28, 29, 30, 31, 32, 33, 34, 35, 36, 37, 38, 39, 40, 41, 42, 43, 44, 45, 46, 47, 48, 49, 50, 51, 52, 53, 54, 55, 56, 57, 58, 59, 60, 61, 62, 63, 64, 65, 66, 67, 68, 69, 70, 71, 72, 73, 74, 75, 76, 77, 78, 79, 80, 81, 82, 83, 84, 85, 86, 87, 88, 89, 90, 91, 92, 93, 94, 95, 96, 97, 98, 99, 100, 101, 102, 103, 104, 105, 106, 107, 108, 109, 110, 111, 112, 113, 114, 115, 116, 117, 118, 119, 120, 121, 122, 123, 124, 125, 126, 127, 128, 129, 130, 131, 132, 133, 134, 135, 136, 137, 138, 139, 140, 141, 142, 143, 144, 145, 146, 147, 148, 149, 150, 151, 152, 153, 154, 155, 156, 157, 158, 159, 160, 161, 162, 163, 164, 165, 166, 167, 168, 169, 170, 171, 172, 173, 174, 175, 176, 177, 178, 179, 180, 181, 182, 183, 184, 185, 186, 187, 188, 189, 190, 191, 192, 193, 194, 195, 196, 197, 198, 199, 200, 201, 202, 203, 204, 205, 206, 207, 208, 209, 210, 211, 212, 213, 214, 215, 216, 217, 218, 219, 220, 221, 222] rfl (by decide +kernel)) (goodIn_sub (fun _ h => List.mem_cons_of_mem _ (List.mem_append_left _ (List.mem_append_right _ h))) (by decide +kernel))) (goodIn_sub (fun _ h => List.mem_cons_of_mem _ (List.mem_append_right _ h)) (by decide +kernel))
set_option maxRecDepth 200000 in
theorem gL_isForetoldSo_L_newLength : GoodIn wsL_isForetoldSo (va_wsS RL 111 yL_newLength wsL_newLength) := goodIn_app (goodIn_of _ (by decide +kernel)) ggL_isForetoldSo_L_newLength
theorem dL_isForetoldSo_0 : decode cL_isForetoldSo 0 = .ok (.aload_n 0, 1) := by decide +kernel
theorem dL_isForetoldSo_1 : decode cL_isForetoldSo 1 = .ok (.iload_n 1, 1) := by decide +kernel
theorem dL_isForetoldSo_2 : decode cL_isForetoldSo 2 = .ok (.iload_n 2, 1) := by decide +kernel
theorem dL_isForetoldSo_3 : decode cL_isForetoldSo 3 = .ok (.iconst 0, 1) := by decide +kernel
theorem dL_isForetoldSo_4 : decode cL_isForetoldSo 4 = .ok (.invokestatic 111, 3) := by decide +kernel
theorem dL_isForetoldSo_7 : decode cL_isForetoldSo 7 = .ok (.istore_n 3, 1) := by decide +kernel
theorem dL_isForetoldSo_8 : decode cL_isForetoldSo 8 = .ok (.aload_n 0, 1) := by decide +kernel
theorem dL_isForetoldSo_9 : decode cL_isForetoldSo 9 = .ok (.iload_n 1, 1) := by decide +kernel
theorem dL_isForetoldSo_10 : decode cL_isForetoldSo 10 = .ok (.iload_n 2, 1) := by decide +kernel
theorem dL_isForetoldSo_11 : decode cL_isForetoldSo 11 = .ok (.iconst 1, 1) := by decide +kernel
theorem dL_isForetoldSo_12 : decode cL_isForetoldSo 12 = .ok (.invokestatic 111, 3) := by decide +kernel
theorem dL_isForetoldSo_15 : decode cL_isForetoldSo 15 = .ok (.istore 4, 2) := by decide +kernel
theorem dL_isForetoldSo_17 : decode cL_isForetoldSo 17 = .ok (.aload_n 0, 1) := by decide +kernel
theorem dL_isForetoldSo_18 : decode cL_isForetoldSo 18 = .ok (.iload_n 1, 1) := by decide +kernel
theorem dL_isForetoldSo_19 : decode cL_isForetoldSo 19 = .ok (.iload_n 2, 1) := by decide +kernel
theorem dL_isForetoldSo_20 : decode cL_isForetoldSo 20 = .ok (.iconst 2, 1) := by decide +kernel
theorem dL_isForetoldSo_21 : decode cL_isForetoldSo 21 = .ok (.invokestatic 111, 3) := by decide +kernel
theorem dL_isForetoldSo_24 : decode cL_isForetoldSo 24 = .ok (.istore 5, 2) := by decide +kernel
theorem dL_isForetoldSo_26 : decode cL_isForetoldSo 26 = .ok (.iload 4, 2) := by decide +kernel
theorem dL_isForetoldSo_28 : decode cL_isForetoldSo 28 = .ok (.ifCond .lt 13, 3) := by decide +kernel
theorem dL_isForetoldSo_31 : decode cL_isForetoldSo 31 = .ok (.iload_n 3, 1) := by decide +kernel
theorem dL_isForetoldSo_32 : decode cL_isForetoldSo 32 = .ok (.ifCond .lt 31, 3) := by decide +kernel
theorem dL_isForetoldSo_35 : decode cL_isForetoldSo 35 = .ok (.iload_n 3, 1) := by decide +kernel
theorem dL_isForetoldSo_36 : decode cL_isForetoldSo 36 = .ok (.iload 4, 2) := by decide +kernel
theorem dL_isForetoldSo_38 : decode cL_isForetoldSo 38 = .ok (.if_icmp .gt 25, 3) := by decide +kernel
theorem dL_isForetoldSo_41 : decode cL_isForetoldSo 41 = .ok (.iload 5, 2) := by decide +kernel
theorem dL_isForetoldSo_43 : decode cL_isForetoldSo 43 = .ok (.ifCond .lt 16, 3) := by decide +kernel
theorem dL_isForetoldSo_46 : decode cL_isForetoldSo 46 = .ok (.iload 4, 2) := by decide +kernel
theorem dL_isForetoldSo_48 : decode cL_isForetoldSo 48 = .ok (.ifCond .lt 15, 3) := by decide +kernel
theorem dL_isForetoldSo_51 : decode cL_isForetoldSo 51 = .ok (.iload 5, 2) := by decide +kernel
theorem dL_isForetoldSo_53 : decode cL_isForetoldSo 53 = .ok (.iconst 2, 1) := by decide +kernel
theorem dL_isForetoldSo_54 : decode cL_isForetoldSo 54 = .ok (.iload_n 3, 1) := by decide +kernel
theorem dL_isForetoldSo_55 : decode cL_isForetoldSo 55 = .ok (.imul, 1) := by decide +kernel
theorem dL_isForetoldSo_56 : decode cL_isForetoldSo 56 = .ok (.if_icmp .lt 7, 3) := by decide +kernel
theorem dL_isForetoldSo_59 : decode cL_isForetoldSo 59 = .ok (.iconst 1, 1) := by decide +kernel
theorem dL_isForetoldSo_60 : decode cL_isForetoldSo 60 = .ok (.goto 4, 3) := by decide +kernel
theorem dL_isForetoldSo_63 : decode cL_isForetoldSo 63 = .ok (.iconst 0, 1) := by decide +kernel
theorem dL_isForetoldSo_64 : decode cL_isForetoldSo 64 = .ok (.ireturn, 1) := by decide +kernel
set_option maxRecDepth 200000 in
theorem ggL_isReroutedSo_L_does : GoodIn wsL_isReroutedSo wsL_does := goodIn_ca (goodIn_ca (goodIn_r _ [4, 5, 6, 7, 8, 9, 10, 11, 12, 13, 14, 15, 16, 17, 18, 19, 20, 21, 22, 23, 24, 25, 26, 27, 28, 29, 30, 31, 32, 33, 34, 35, 36, 37, 38, 39, 40, 41, 42, 43, 44, 45, 46, 47, 48, 49, 50, 51, 52, 53, 54, 55, 56, 57, 58, 59, 60, 61, 62, 63, 64, 65, 66, 67, 68, 69, 70, 71, 72, 73, 74, 75, 76, 77, 78, 79, 80, 81, 82, 83, 84, 85, 86, 87, 88, 89, 90, 91, 92, 93, 94, 95, 96, 97, 98, 99, 100, 101, 102, 103, 104, 105, 106, 107, 108, 109, 110, 111, 112, 113, 114, 115, 116, 117, 118, 119, 120, 121, 122, 123, 124, 125, 126, 127, 128, 129, 130, 131, 132, 133, 134, 135, 136, 137, 138, 139, 140, 141, 142, 143, 144, 145, 146, 147, 148, 149, 150, 151, 152, 153, 154, 155, 156, 157, 158, 159, 160, 161, 162, 163, 164, 165, 166, 167, 168, 169, 170, 171, 172, 173, 174, 175, 176, 177, 178, 179, 180, 181, 182, 183, 184, 185, 186, 187, 188, 189, 190, 191, 192, 193, 194, 195, 196, 197, 198, 199, 200, 201, 202, 203, 204, 205, 206, 207, 208, 209, 210, 211, 212, 213, 214, 215, 216, 217, 218, 219, 220, 221, 222, 223, 224, 225, 226, 227, 228, 229, 230, 231, 232, 233, 234, 235, 236, 237, 238, 239, 240, 241, 242, 261, 262, 263, 264, 265, 266, 267, 268, 269, 270, 271, 272, 273, 274, 275, 276, 277, 278, 279, 280, 281, 282, 283, 284, 285, 286, 287, 288, 289, 290, 291, 292, 293, 294, 295, 296, 297, 298, 299, 300, 301] rfl (by decide +kernel)) (goodIn_sub (fun _ h => List.mem_cons_of_mem _ (List.mem_append_left _ (List.mem_append_right _ h))) (by decide +kernel))) (goodIn_sub (fun _ h => List.mem_cons_of_mem _ (List.mem_append_right _ h)) (by decide +kernel))
set_option maxRecDepth 200000 in
theorem gL_isReroutedSo_L_does : GoodIn wsL_isReroutedSo (va_wsS RL 81 yL_does wsL_does) := goodIn_app (goodIn_of _ (by decide +kernel)) ggL_isReroutedSo_L_does
set_option maxRecDepth 200000 in
theorem ggL_isReroutedSo_X5_channel : GoodIn wsL_isReroutedSo wsX5_channel := goodIn_ca (goodIn_r _ [246, 21, 22, 247, 248, 249, 250, 11, 251, 86, 87, 88, 89, 38, 39, 222, 223, 224, 43, 225, 45, 47, 48, 49, 50, 51, 52, 53, 252, 117, 118, 108, 119, 120, 110, 284, 285, 286, 287, 288, 261, 262, 263, 264, 265, 266, 267, 268, 277, 278, 279, 280, 281, 282, 283] rfl (by decide +kernel)) (goodIn_sub (fun _ h => List.mem_cons_of_mem _ (List.mem_append_right _ h)) (by decide +kernel))
set_option maxRecDepth 200000 in
theorem gL_isReroutedSo_X5_channel : GoodIn wsL_isReroutedSo (wsV RL 55 RX5 yX5_channel wsX5_channel) := goodIn_app (goodIn_of _ (by decide +kernel)) ggL_isReroutedSo_X5_channel
set_option maxRecDepth 200000 in
theorem ggL_isReroutedSo_X5_channels : GoodIn wsL_isReroutedSo wsX5_channels := goodIn_ca (goodIn_r _ [256, 247, 248, 249, 250, 11, 251, 21, 22, 86, 87, 88, 89, 38, 39, 222, 223, 224, 43, 225, 45, 47, 48, 49, 50, 51, 52, 53, 284, 285, 286, 287, 288, 261, 262, 263, 264, 265, 266, 267, 268, 277, 278, 279, 280, 281, 282, 283] rfl (by decide +kernel)) (goodIn_sub (fun _ h => List.mem_cons_of_mem _ (List.mem_append_right _ h)) (by decide +kernel))
set_option maxRecDepth 200000 in
theorem gL_isReroutedSo_X5_channels : GoodIn wsL_isReroutedSo (wsV RL 51 RX5 yX5_channels wsX5_channels) := goodIn_app (goodIn_of _ (by decide +kernel)) ggL_isReroutedSo_X5_channels
set_option maxRecDepth 200000 in
theorem ggL_isReroutedSo_X5_state : GoodIn wsL_isReroutedSo wsX5_state := goodIn_ca (goodIn_r _ [260, 15, 16, 86, 87, 88, 11, 89, 21, 22, 38, 39, 90, 50, 51, 43, 52, 53, 40, 41, 42, 44, 45, 46, 47, 48, 49, 261, 262, 263, 264, 265, 266, 267, 268, 269, 270, 271, 272, 273, 274, 275, 276, 277, 278, 279, 280, 281, 282, 283, 284, 285, 286, 287, 288] rfl (by decide +kernel)) (goodIn_sub (fun _ h => List.mem_cons_of_mem _ (List.mem_append_right _ h)) (by decide +kernel))
set_option maxRecDepth 200000 in
theorem gL_isReroutedSo_X5_state : GoodIn wsL_isReroutedSo (wsV RL 102 RX5 yX5_state wsX5_state) := goodIn_app (goodIn_of _ (by decide +kernel)) ggL_isReroutedSo_X5_state
theorem dL_isReroutedSo_0 : decode cL_isReroutedSo 0 = .ok (.aload_n 0, 1) := by decide +kernel
theorem dL_isReroutedSo_1 : decode cL_isReroutedSo 1 = .ok (.iconst 4, 1) := by decide +kernel
theorem dL_isReroutedSo_2 : decode cL_isReroutedSo 2 = .ok (.iload_n 2, 1) := by decide +kernel
theorem dL_isReroutedSo_3 : decode cL_isReroutedSo 3 = .ok (.invokestatic 81, 3) := by decide +kernel
theorem dL_isReroutedSo_6 : decode cL_isReroutedSo 6 = .ok (.istore_n 3, 1) := by decide +kernel
theorem dL_isReroutedSo_7 : decode cL_isReroutedSo 7 = .ok (.aload_n 1, 1) := by decide +kernel
theorem dL_isReroutedSo_8 : decode cL_isReroutedSo 8 = .ok (.iconst 4, 1) := by decide +kernel
theorem dL_isReroutedSo_9 : decode cL_isReroutedSo 9 = .ok (.iload_n 2, 1) := by decide +kernel
theorem dL_isReroutedSo_10 : decode cL_isReroutedSo 10 = .ok (.invokestatic 81, 3) := by decide +kernel
theorem dL_isReroutedSo_13 : decode cL_isReroutedSo 13 = .ok (.iload_n 3, 1) := by decide +kernel
theorem dL_isReroutedSo_14 : decode cL_isReroutedSo 14 = .ok (.if_icmp .ne 7, 3) := by decide +kernel
theorem dL_isReroutedSo_17 : decode cL_isReroutedSo 17 = .ok (.iconst 1, 1) := by decide +kernel
theorem dL_isReroutedSo_18 : decode cL_isReroutedSo 18 = .ok (.goto 4, 3) := by decide +kernel
theorem dL_isReroutedSo_21 : decode cL_isReroutedSo 21 = .ok (.iconst 0, 1) := by decide +kernel
theorem dL_isReroutedSo_22 : decode cL_isReroutedSo 22 = .ok (.istore 4, 2) := by decide +kernel
theorem dL_isReroutedSo_24 : decode cL_isReroutedSo 24 = .ok (.iload_n 3, 1) := by decide +kernel
theorem dL_isReroutedSo_25 : decode cL_isReroutedSo 25 = .ok (.ifCond .ge 6, 3) := by decide +kernel
theorem dL_isReroutedSo_28 : decode cL_isReroutedSo 28 = .ok (.iload 4, 2) := by decide +kernel
theorem dL_isReroutedSo_30 : decode cL_isReroutedSo 30 = .ok (.ireturn, 1) := by decide +kernel
theorem dL_isReroutedSo_31 : decode cL_isReroutedSo 31 = .ok (.aload_n 0, 1) := by decide +kernel
theorem dL_isReroutedSo_32 : decode cL_isReroutedSo 32 = .ok (.iload_n 2, 1) := by decide +kernel
theorem dL_isReroutedSo_33 : decode cL_isReroutedSo 33 = .ok (.iconst 0, 1) := by decide +kernel
theorem dL_isReroutedSo_34 : decode cL_isReroutedSo 34 = .ok (.iconst 0, 1) := by decide +kernel
theorem dL_isReroutedSo_35 : decode cL_isReroutedSo 35 = .ok (.invokevirtual 55, 3) := by decide +kernel
theorem dL_isReroutedSo_38 : decode cL_isReroutedSo 38 = .ok (.istore 5, 2) := by decide +kernel
theorem dL_isReroutedSo_40 : decode cL_isReroutedSo 40 = .ok (.aload_n 0, 1) := by decide +kernel
theorem dL_isReroutedSo_41 : decode cL_isReroutedSo 41 = .ok (.iload_n 2, 1) := by decide +kernel
theorem dL_isReroutedSo_42 : decode cL_isReroutedSo 42 = .ok (.iconst 0, 1) := by decide +kernel
theorem dL_isReroutedSo_43 : decode cL_isReroutedSo 43 = .ok (.invokevirtual 51, 3) := by decide +kernel
theorem dL_isReroutedSo_46 : decode cL_isReroutedSo 46 = .ok (.istore 6, 2) := by decide +kernel
theorem dL_isReroutedSo_48 : decode cL_isReroutedSo 48 = .ok (.iload 4, 2) := by decide +kernel
theorem dL_isReroutedSo_50 : decode cL_isReroutedSo 50 = .ok (.ifCond .eq 48, 3) := by decide +kernel
theorem dL_isReroutedSo_53 : decode cL_isReroutedSo 53 = .ok (.aload_n 0, 1) := by decide +kernel
theorem dL_isReroutedSo_54 : decode cL_isReroutedSo 54 = .ok (.iload_n 2, 1) := by decide +kernel
theorem dL_isReroutedSo_55 : decode cL_isReroutedSo 55 = .ok (.invokevirtual 102, 3) := by decide +kernel
theorem dL_isReroutedSo_58 : decode cL_isReroutedSo 58 = .ok (.ifCond .ne 40, 3) := by decide +kernel
theorem dL_isReroutedSo_61 : decode cL_isReroutedSo 61 = .ok (.aload_n 0, 1) := by decide +kernel
theorem dL_isReroutedSo_62 : decode cL_isReroutedSo 62 = .ok (.iconst 4, 1) := by decide +kernel
theorem dL_isReroutedSo_63 : decode cL_isReroutedSo 63 = .ok (.iload_n 2, 1) := by decide +kernel
theorem dL_isReroutedSo_64 : decode cL_isReroutedSo 64 = .ok (.invokestatic 81, 3) := by decide +kernel
theorem dL_isReroutedSo_67 : decode cL_isReroutedSo 67 = .ok (.iload_n 3, 1) := by decide +kernel
theorem dL_isReroutedSo_68 : decode cL_isReroutedSo 68 = .ok (.if_icmp .ne 30, 3) := by decide +kernel
theorem dL_isReroutedSo_71 : decode cL_isReroutedSo 71 = .ok (.aload_n 0, 1) := by decide +kernel
theorem dL_isReroutedSo_72 : decode cL_isReroutedSo 72 = .ok (.iload_n 2, 1) := by decide +kernel
theorem dL_isReroutedSo_73 : decode cL_isReroutedSo 73 = .ok (.iconst 0, 1) := by decide +kernel
theorem dL_isReroutedSo_74 : decode cL_isReroutedSo 74 = .ok (.iconst 0, 1) := by decide +kernel
theorem dL_isReroutedSo_75 : decode cL_isReroutedSo 75 = .ok (.invokevirtual 55, 3) := by decide +kernel
theorem dL_isReroutedSo_78 : decode cL_isReroutedSo 78 = .ok (.iload 5, 2) := by decide +kernel
theorem dL_isReroutedSo_80 : decode cL_isReroutedSo 80 = .ok (.if_icmp .ne 18, 3) := by decide +kernel
theorem dL_isReroutedSo_83 : decode cL_isReroutedSo 83 = .ok (.aload_n 0, 1) := by decide +kernel
theorem dL_isReroutedSo_84 : decode cL_isReroutedSo 84 = .ok (.iload_n 2, 1) := by decide +kernel
theorem dL_isReroutedSo_85 : decode cL_isReroutedSo 85 = .ok (.iconst 0, 1) := by decide +kernel
theorem dL_isReroutedSo_86 : decode cL_isReroutedSo 86 = .ok (.invokevirtual 51, 3) := by decide +kernel
theorem dL_isReroutedSo_89 : decode cL_isReroutedSo 89 = .ok (.iload 6, 2) := by decide +kernel
theorem dL_isReroutedSo_91 : decode cL_isReroutedSo 91 = .ok (.if_icmp .ne 7, 3) := by decide +kernel
theorem dL_isReroutedSo_94 : decode cL_isReroutedSo 94 = .ok (.iconst 1, 1) := by decide +kernel
theorem dL_isReroutedSo_95 : decode cL_isReroutedSo 95 = .ok (.goto 4, 3) := by decide +kernel
theorem dL_isReroutedSo_98 : decode cL_isReroutedSo 98 = .ok (.iconst 0, 1) := by decide +kernel
theorem dL_isReroutedSo_99 : decode cL_isReroutedSo 99 = .ok (.istore 4, 2) := by decide +kernel
theorem dL_isReroutedSo_101 : decode cL_isReroutedSo 101 = .ok (.iload 4, 2) := by decide +kernel
theorem dL_isReroutedSo_103 : decode cL_isReroutedSo 103 = .ok (.ifCond .eq 17, 3) := by decide +kernel
theorem dL_isReroutedSo_106 : decode cL_isReroutedSo 106 = .ok (.aload_n 1, 1) := by decide +kernel
theorem dL_isReroutedSo_107 : decode cL_isReroutedSo 107 = .ok (.iconst 4, 1) := by decide +kernel
theorem dL_isReroutedSo_108 : decode cL_isReroutedSo 108 = .ok (.iload_n 2, 1) := by decide +kernel
theorem dL_isReroutedSo_109 : decode cL_isReroutedSo 109 = .ok (.invokestatic 81, 3) := by decide +kernel
theorem dL_isReroutedSo_112 : decode cL_isReroutedSo 112 = .ok (.iload_n 3, 1) := by decide +kernel
theorem dL_isReroutedSo_113 : decode cL_isReroutedSo 113 = .ok (.if_icmp .ne 7, 3) := by decide +kernel
theorem dL_isReroutedSo_116 : decode cL_isReroutedSo 116 = .ok (.iconst 1, 1) := by decide +kernel
theorem dL_isReroutedSo_117 : decode cL_isReroutedSo 117 = .ok (.goto 4, 3) := by decide +kernel
theorem dL_isReroutedSo_120 : decode cL_isReroutedSo 120 = .ok (.iconst 0, 1) := by decide +kernel
theorem dL_isReroutedSo_121 : decode cL_isReroutedSo 121 = .ok (.ireturn, 1) := by decide +kernel
set_option maxRecDepth 200000 in
theorem ggL_law_X5_init : GoodIn wsL_law wsX5_init := goodIn_r _ [6, 7, 8, 9, 10, 11, 12, 13, 14, 15, 16, 17, 18, 19, 20, 21, 22, 23, 24, 25, 26, 27, 28, 29, 30, 31, 32, 33, 34, 35, 36, 37, 38, 39, 40, 41, 42, 43, 44, 45, 46, 47, 48, 49, 50, 51, 52, 53, 54, 55, 56, 57, 58, 59, 60, 61, 62, 63, 64, 65, 66, 67, 68, 503, 504, 505, 506, 507, 508, 509, 510, 495, 496, 497, 498, 499, 500, 501, 502, 511, 512, 513, 514, 515, 516, 517, 518, 519, 520, 521, 522, 523, 524, 525, 526, 527, 528, 529, 530, 531, 532, 533, 534, 535, 536, 537, 538] rfl (by decide +kernel)
set_option maxRecDepth 200000 in
theorem gL_law_X5_init : GoodIn wsL_law (wsX5_init) := ggL_law_X5_init
set_option maxRecDepth 200000 in
theorem ggL_law_L_cell : GoodIn wsL_law wsL_cell := goodIn_r _ [72] rfl (by decide +kernel)
set_option maxRecDepth 200000 in
theorem gL_law_L_cell : GoodIn wsL_law (va_wsS RL 114 yL_cell wsL_cell) := goodIn_app (goodIn_of _ (by decide +kernel)) ggL_law_L_cell
set_option maxRecDepth 200000 in
theorem ggL_law_L_low : GoodIn wsL_law wsL_low := goodIn_r _ [75, 76] rfl (by decide +kernel)
set_option maxRecDepth 200000 in
theorem gL_law_L_low : GoodIn wsL_law (va_wsS RL 65 yL_low wsL_low) := goodIn_app (goodIn_of _ (by decide +kernel)) ggL_law_L_low
set_option maxRecDepth 200000 in
theorem ggL_law_X5_begin : GoodIn wsL_law wsX5_begin := goodIn_ca (goodIn_r _ [80, 81, 82, 13, 83, 84, 85, 86, 87, 12, 88, 32, 33, 89, 90, 91, 495, 496, 497, 498, 499, 500, 501, 502, 503, 504, 505, 506, 507, 508, 509, 510] rfl (by decide +kernel)) (goodIn_sub (fun _ h => List.mem_append_left _ (List.mem_append_left _ (List.mem_append_right _ h))) (by decide +kernel))
set_option maxRecDepth 200000 in
theorem gL_law_X5_begin : GoodIn wsL_law (wsV RL 118 RX5 yX5_begin wsX5_begin) := goodIn_app (goodIn_of _ (by decide +kernel)) ggL_law_X5_begin
set_option maxRecDepth 200000 in
theorem ggL_law_L_add : GoodIn wsL_law wsL_add := goodIn_ca (goodIn_ca (goodIn_r _ [94, 95, 96, 3, 97, 98, 99, 2, 100, 81, 82, 101, 102, 13, 103, 104, 105, 106, 107, 108, 109, 12, 110, 32, 111, 112, 113, 114, 89, 34, 35, 36, 495, 496, 497, 498, 499, 500, 501, 502, 503, 504, 505, 506, 507, 508, 509, 510] rfl (by decide +kernel)) (goodIn_sub (fun _ h => List.mem_append_left _ (List.mem_append_left _ (List.mem_append_right _ h))) (by decide +kernel))) (goodIn_sub (fun _ h => List.mem_append_left _ (List.mem_append_right _ h)) (by decide +kernel))
set_option maxRecDepth 200000 in
theorem gL_law_L_add : GoodIn wsL_law (va_wsS RL 70 yL_add wsL_add) := goodIn_app (goodIn_of _ (by decide +kernel)) ggL_law_L_add
set_option maxRecDepth 200000 in
theorem ggL_law_L_act : GoodIn wsL_law wsL_act := goodIn_ca (goodIn_ca (goodIn_ca (goodIn_r _ [117, 73, 74, 71, 75, 76, 92, 93, 94, 95, 96, 3, 97, 98, 99, 2, 100, 81, 82, 101, 102, 13, 103, 104, 105, 106, 107, 108, 109, 12, 110, 32, 111, 112, 113, 114, 89, 34, 35, 36, 118, 119, 120, 121, 122, 123, 124, 84, 125, 26, 28, 126, 127, 128, 129, 130, 131, 132, 83, 23, 133, 134, 135, 136, 137, 25, 138, 66, 139, 140, 67, 141, 142, 143, 144, 145, 146, 147, 148, 149, 150, 151, 152, 153, 154, 155, 17, 156, 157, 158, 159, 160, 161, 162, 163, 164, 165, 166, 167, 168, 169, 91, 170, 171, 172, 173, 174, 175, 176, 177, 178, 179, 180, 52, 181, 182, 183, 184, 185, 186, 187, 188, 189, 190, 191, 192, 193, 194, 195, 16, 196, 50, 197, 198, 199, 200, 201, 202, 203, 204, 205, 206, 207, 208, 209, 41, 42, 43, 45, 210, 211, 212, 213, 47, 49, 214, 215, 216, 217, 218, 219, 220, 221, 222, 223, 224, 225, 226, 227, 228, 229, 230, 231, 232, 233, 234, 235, 236, 237, 238, 239, 240, 241, 242, 243, 244, 245, 246, 247, 248, 249, 250, 251, 252, 253, 254, 255, 256, 257, 258, 259, 260, 261, 262, 263, 264, 265, 266, 267, 268, 269, 270, 271, 272, 273, 274, 275, 276, 277, 278, 279, 280, 281, 282, 283, 284, 285, 286, 287, 288, 289, 290, 291, 292, 293, 294, 295, 296, 297, 298, 299, 300, 301, 302, 303, 304, 305, 306, 307, 308, 309, 310, 311, 312, 313, 314, 315, 316, 317, 318, 319, 320, 321, 322, 323, 324, 325, 326, 327, 328, 329, 330, 331, 332, 333, 334, 335, 336, 337, 338, 339, 340, 341, 342, 343, 344, 345, 346, 347, 348, 349, 350, 351, 352, 353, 354, 355, 356, 357, 358, 359, 360, 361, 362, 363, 364, 365, 366, 367, 368, 369, 370, 371, 372, 373, 374, 375, 376, 377, 378, 379, 380, 381, 382, 383, 384, 385, 386, 387, 388, 389, 390, 391, 392, 393, 495, 496, 497, 498, 499, 500, 501, 502, 503, 504, 505, 506, 507, 508, 509, 510, 527, 528, 529, 530, 531, 532, 533, 534, 535, 536, 537, 538, 511, 512, 513, 514, 515, 516, 517, 518, 519, 520, 521, 522, 523] rfl (by decide +kernel)) (goodIn_sub (fun _ h => List.mem_append_left _ (List.mem_append_left _ (List.mem_append_right _ h))) (by decide +kernel))) (goodIn_sub (fun _ h => List.mem_append_left _ (List.mem_append_right _ h)) (by decide +kernel))) (goodIn_sub (fun _ h => List.mem_append_right _ h) (by decide +kernel))
set_option maxRecDepth 200000 in
theorem gL_law_L_act : GoodIn wsL_law (va_wsS RL 122 yL_act wsL_act) := goodIn_app (goodIn_of _ (by decide +kernel)) ggL_law_L_act
set_option maxRecDepth 200000 in
theorem ggL_law_L_areAlike : GoodIn wsL_law wsL_areAlike := goodIn_ca (goodIn_ca (goodIn_ca (goodIn_r _ [396, 397, 398, 399, 2, 400, 13, 370, 401, 402, 403, 404, 170, 171, 172, 173, 83, 23, 174, 175, 176, 25, 177, 66, 140, 67, 141, 142, 143, 144, 145, 178, 179, 180, 52, 181, 182, 183, 184, 185, 186, 187, 188, 189, 190, 191, 192, 405, 406, 407, 408, 409, 410, 411, 293, 294, 295, 296, 84, 390, 391, 392, 393, 412, 413, 414, 415, 101, 102, 160, 416, 417, 71, 418, 300, 95, 3, 419, 420, 421, 422, 423, 424, 425, 426, 427, 309, 310, 340, 341, 342, 343, 361, 362, 363, 364, 428, 429, 430, 431, 432, 433, 434, 435, 436, 81, 82, 305, 306, 307, 308, 162, 163, 164, 12, 165, 89, 437, 438, 439, 440, 133, 284, 135, 136, 137, 138, 139, 441, 442, 443, 444, 125, 495, 496, 497, 498, 499, 500, 501, 502, 503, 504, 505, 506, 507, 508, 509, 510, 527, 528, 529, 530, 531, 532, 533, 534, 535, 536, 537, 538] rfl (by decide +kernel)) (goodIn_sub (fun _ h => List.mem_append_left _ (List.mem_append_right _ h)) (by decide +kernel))) (goodIn_sub (fun _ h => List.mem_append_right _ h) (by decide +kernel))) (goodIn_sub (fun _ h => List.mem_append_left _ (List.mem_append_left _ (List.mem_append_right _ h))) (by decide +kernel))
set_option maxRecDepth 200000 in
theorem gL_law_L_areAlike : GoodIn wsL_law (va_wsS RL 125 yL_areAlike wsL_areAlike) := goodIn_app (goodIn_of _ (by decide +kernel)) ggL_law_L_areAlike
set_option maxRecDepth 200000 in
theorem ggL_law_L_areLightsSo : GoodIn wsL_law wsL_areLightsSo := goodIn_ca (goodIn_ca (goodIn_ca (goodIn_r _ [447, 3, 390, 391, 392, 2, 393, 83, 437, 438, 439, 440, 13, 133, 340, 341, 342, 343, 309, 310, 23, 284, 142, 143, 25, 144, 145, 135, 136, 137, 138, 66, 139, 140, 67, 141, 441, 442, 443, 444, 125, 416, 417, 71, 418, 300, 95, 419, 420, 421, 422, 423, 424, 425, 426, 427, 361, 362, 363, 364, 428, 429, 430, 431, 432, 189, 190, 52, 191, 192, 182, 433, 434, 435, 436, 81, 82, 160, 305, 306, 307, 308, 162, 163, 164, 12, 165, 89, 174, 175, 176, 177, 178, 179, 180, 181, 183, 184, 185, 186, 187, 188, 293, 294, 295, 296, 84, 297, 298, 299, 96, 301, 302, 303, 304, 101, 102, 166, 167, 168, 169, 91, 311, 312, 313, 314, 315, 316, 317, 318, 319, 320, 321, 322, 26, 28, 323, 324, 325, 326, 327, 328, 329, 330, 331, 332, 333, 334, 335, 134, 17, 336, 337, 278, 338, 339, 156, 157, 158, 159, 161, 170, 171, 172, 173, 193, 194, 195, 16, 196, 50, 197, 198, 199, 200, 201, 202, 203, 204, 205, 206, 207, 208, 209, 41, 42, 43, 45, 210, 211, 212, 213, 47, 49, 214, 215, 216, 217, 218, 219, 220, 221, 222, 223, 224, 225, 226, 227, 228, 229, 230, 231, 232, 233, 234, 235, 236, 237, 238, 239, 240, 241, 34, 35, 242, 243, 244, 245, 246, 36, 247, 248, 249, 250, 251, 252, 253, 254, 255, 256, 344, 290, 291, 292, 345, 346, 347, 348, 349, 350, 351, 352, 146, 147, 148, 149, 150, 151, 353, 354, 355, 356, 357, 358, 359, 360, 365, 366, 367, 368, 369, 370, 371, 372, 373, 374, 375, 376, 377, 378, 379, 380, 381, 495, 496, 497, 498, 499, 500, 501, 502, 503, 504, 505, 506, 507, 508, 509, 510, 527, 528, 529, 530, 531, 532, 533, 534, 535, 536, 537, 538, 511, 512, 513, 514, 515, 516, 517, 518, 519, 520, 521, 522, 523] rfl (by decide +kernel)) (goodIn_sub (fun _ h => List.mem_append_right _ h) (by decide +kernel))) (goodIn_sub (fun _ h => List.mem_append_left _ (List.mem_append_left _ (List.mem_append_right _ h))) (by decide +kernel))) (goodIn_sub (fun _ h => List.mem_append_left _ (List.mem_append_right _ h)) (by decide +kernel))
set_option maxRecDepth 200000 in
theorem gL_law_L_areLightsSo : GoodIn wsL_law (va_wsS RL 129 yL_areLightsSo wsL_areLightsSo) := goodIn_app (goodIn_of _ (by decide +kernel)) ggL_law_L_areLightsSo
set_option maxRecDepth 200000 in
theorem ggL_law_L_isNeededSo : GoodIn wsL_law wsL_isNeededSo := goodIn_ca (goodIn_ca (goodIn_r _ [450, 390, 391, 392, 2, 393, 83, 437, 438, 439, 440, 13, 133, 340, 341, 342, 343, 309, 310, 23, 284, 142, 143, 25, 144, 145, 135, 136, 137, 138, 66, 139, 140, 67, 141, 416, 417, 71, 418, 300, 95, 3, 419, 420, 421, 422, 423, 424, 425, 426, 427, 361, 362, 363, 364, 428, 429, 430, 431, 432, 189, 190, 52, 191, 192, 182, 433, 434, 435, 436, 81, 82, 160, 305, 306, 307, 308, 162, 163, 164, 12, 165, 89, 174, 175, 176, 177, 178, 179, 180, 181, 183, 184, 185, 186, 187, 188, 451, 452, 453, 454, 21, 338, 455, 456, 457, 458, 20, 459, 460, 461, 462, 463, 464, 59, 465, 466, 467, 468, 469, 470, 471, 472, 473, 402, 403, 404, 474, 475, 476, 477, 60, 478, 479, 480, 481, 495, 496, 497, 498, 499, 500, 501, 502, 503, 504, 505, 506, 507, 508, 509, 510, 527, 528, 529, 530, 531, 532, 533, 534, 535, 536, 537, 538, 524, 525, 526] rfl (by decide +kernel)) (goodIn_sub (fun _ h => List.mem_append_right _ h) (by decide +kernel))) (goodIn_sub (fun _ h => List.mem_append_left _ (List.mem_append_left _ (List.mem_append_right _ h))) (by decide +kernel))
set_option maxRecDepth 200000 in
theorem gL_law_L_isNeededSo : GoodIn wsL_law (va_wsS RL 133 yL_isNeededSo wsL_isNeededSo) := goodIn_app (goodIn_of _ (by decide +kernel)) ggL_law_L_isNeededSo
set_option maxRecDepth 200000 in
theorem ggL_law_L_isForetoldSo : GoodIn wsL_law wsL_isForetoldSo := goodIn_ca (goodIn_ca (goodIn_r _ [484, 485, 486, 71, 487, 95, 96, 3, 488, 489, 490, 2, 491, 81, 82, 101, 102, 17, 278, 279, 339, 103, 104, 105, 106, 13, 107, 108, 109, 12, 110, 32, 126, 127, 128, 152, 153, 154, 155, 156, 157, 158, 159, 160, 161, 162, 163, 164, 165, 89, 166, 167, 168, 169, 91, 170, 171, 172, 173, 83, 23, 174, 175, 176, 25, 177, 66, 140, 67, 141, 142, 143, 144, 145, 178, 179, 180, 52, 181, 182, 183, 184, 185, 186, 187, 188, 189, 190, 191, 192, 193, 194, 195, 16, 196, 50, 197, 198, 199, 200, 201, 202, 203, 204, 205, 206, 207, 208, 209, 41, 42, 43, 45, 210, 211, 212, 213, 47, 49, 214, 215, 216, 217, 218, 219, 220, 221, 222, 223, 224, 225, 226, 227, 228, 229, 230, 231, 232, 233, 234, 235, 236, 237, 238, 239, 240, 241, 34, 35, 242, 243, 244, 245, 246, 36, 247, 248, 249, 250, 251, 252, 253, 254, 255, 256, 257, 258, 259, 260, 261, 262, 263, 264, 265, 266, 267, 268, 269, 270, 271, 272, 273, 495, 496, 497, 498, 499, 500, 501, 502, 511, 512, 513, 514, 515, 516, 517, 518, 519, 520, 521, 522, 523, 534, 535, 536, 537, 538, 503, 504, 505, 506, 507, 508, 509, 510, 527, 528, 529, 530, 531, 532, 533] rfl (by decide +kernel)) (goodIn_sub (fun _ h => List.mem_append_left _ (List.mem_append_left _ (List.mem_append_right _ h))) (by decide +kernel))) (goodIn_sub (fun _ h => List.mem_append_left _ (List.mem_append_right _ h)) (by decide +kernel))
set_option maxRecDepth 200000 in
theorem gL_law_L_isForetoldSo : GoodIn wsL_law (va_wsS RL 136 yL_isForetoldSo wsL_isForetoldSo) := goodIn_app (goodIn_of _ (by decide +kernel)) ggL_law_L_isForetoldSo
set_option maxRecDepth 200000 in
theorem ggL_law_X5_lights : GoodIn wsL_law wsX5_lights := goodIn_r _ [393, 83, 495, 496, 497, 498, 499, 500, 501, 502] rfl (by decide +kernel)
set_option maxRecDepth 200000 in
theorem gL_law_X5_lights : GoodIn wsL_law (wsV RL 89 RX5 yX5_lights wsX5_lights) := goodIn_app (goodIn_of _ (by decide +kernel)) ggL_law_X5_lights
set_option maxRecDepth 200000 in
theorem ggL_law_L_isReroutedSo : GoodIn wsL_law wsL_isReroutedSo := goodIn_ca (goodIn_ca (goodIn_r _ [494, 297, 298, 71, 299, 300, 96, 3, 301, 302, 303, 2, 304, 101, 102, 13, 133, 305, 306, 307, 308, 309, 310, 162, 163, 164, 12, 165, 89, 166, 167, 168, 169, 91, 311, 312, 313, 314, 83, 23, 135, 136, 137, 25, 138, 66, 139, 140, 67, 141, 142, 143, 144, 145, 315, 316, 317, 318, 319, 320, 321, 322, 26, 125, 28, 323, 324, 325, 326, 84, 327, 328, 329, 330, 331, 332, 333, 334, 335, 134, 17, 336, 337, 278, 338, 339, 340, 341, 342, 343, 284, 156, 157, 158, 159, 160, 161, 170, 171, 172, 173, 174, 175, 176, 177, 178, 179, 180, 52, 181, 182, 183, 184, 185, 186, 187, 188, 189, 190, 191, 192, 193, 194, 195, 16, 196, 50, 197, 198, 199, 200, 201, 202, 203, 204, 205, 206, 207, 208, 209, 41, 42, 43, 45, 210, 211, 212, 213, 47, 49, 214, 215, 216, 217, 218, 219, 220, 221, 222, 223, 224, 225, 226, 227, 228, 229, 230, 231, 232, 233, 234, 235, 236, 237, 238, 239, 240, 241, 34, 35, 242, 243, 244, 245, 246, 36, 247, 248, 249, 250, 251, 252, 253, 254, 255, 256, 344, 290, 291, 292, 345, 346, 347, 348, 349, 350, 351, 352, 146, 147, 148, 149, 150, 151, 353, 354, 355, 356, 357, 358, 359, 360, 361, 362, 363, 364, 365, 366, 367, 368, 369, 370, 371, 372, 373, 374, 375, 376, 377, 378, 379, 380, 381, 428, 429, 430, 431, 423, 424, 425, 426, 427, 432, 419, 420, 421, 422, 437, 438, 439, 440, 495, 496, 497, 498, 499, 500, 501, 502, 503, 504, 505, 506, 507, 508, 509, 510, 527, 528, 529, 530, 531, 532, 533, 534, 535, 536, 537, 538, 511, 512, 513, 514, 515, 516, 517, 518, 519, 520, 521, 522, 523] rfl (by decide +kernel)) (goodIn_sub (fun _ h => List.mem_append_left _ (List.mem_append_right _ h)) (by decide +kernel))) (goodIn_sub (fun _ h => List.mem_append_right _ h) (by decide +kernel))
set_option maxRecDepth 200000 in
theorem gL_law_L_isReroutedSo : GoodIn wsL_law (va_wsS RL 140 yL_isReroutedSo wsL_isReroutedSo) := goodIn_app (goodIn_of _ (by decide +kernel)) ggL_law_L_isReroutedSo
theorem dL_law_0 : decode cL_law 0 = .ok (.new 9, 3) := by decide +kernel
theorem dL_law_3 : decode cL_law 3 = .ok (.dup, 1) := by decide +kernel
theorem dL_law_4 : decode cL_law 4 = .ok (.invokespecial 113, 3) := by decide +kernel
theorem dL_law_7 : decode cL_law 7 = .ok (.astore_n 1, 1) := by decide +kernel
theorem dL_law_8 : decode cL_law 8 = .ok (.new 9, 3) := by decide +kernel
theorem dL_law_11 : decode cL_law 11 = .ok (.dup, 1) := by decide +kernel
theorem dL_law_12 : decode cL_law 12 = .ok (.invokespecial 113, 3) := by decide +kernel
theorem dL_law_15 : decode cL_law 15 = .ok (.astore_n 2, 1) := by decide +kernel
theorem dL_law_16 : decode cL_law 16 = .ok (.iconst 3, 1) := by decide +kernel
theorem dL_law_17 : decode cL_law 17 = .ok (.aload_n 0, 1) := by decide +kernel
theorem dL_law_18 : decode cL_law 18 = .ok (.iconst 0, 1) := by decide +kernel
theorem dL_law_19 : decode cL_law 19 = .ok (.invokestatic 114, 3) := by decide +kernel
theorem dL_law_22 : decode cL_law 22 = .ok (.bipush 6, 2) := by decide +kernel
theorem dL_law_24 : decode cL_law 24 = .ok (.invokestatic 65, 3) := by decide +kernel
theorem dL_law_27 : decode cL_law 27 = .ok (.iadd, 1) := by decide +kernel
theorem dL_law_28 : decode cL_law 28 = .ok (.istore_n 3, 1) := by decide +kernel
theorem dL_law_29 : decode cL_law 29 = .ok (.iconst 1, 1) := by decide +kernel
theorem dL_law_30 : decode cL_law 30 = .ok (.aload_n 0, 1) := by decide +kernel
theorem dL_law_31 : decode cL_law 31 = .ok (.iconst 0, 1) := by decide +kernel
theorem dL_law_32 : decode cL_law 32 = .ok (.invokestatic 114, 3) := by decide +kernel
theorem dL_law_35 : decode cL_law 35 = .ok (.iconst 4, 1) := by decide +kernel
theorem dL_law_36 : decode cL_law 36 = .ok (.ishr, 1) := by decide +kernel
theorem dL_law_37 : decode cL_law 37 = .ok (.bipush 8, 2) := by decide +kernel
theorem dL_law_39 : decode cL_law 39 = .ok (.invokestatic 65, 3) := by decide +kernel
theorem dL_law_42 : decode cL_law 42 = .ok (.iadd, 1) := by decide +kernel
theorem dL_law_43 : decode cL_law 43 = .ok (.istore 4, 2) := by decide +kernel
theorem dL_law_45 : decode cL_law 45 = .ok (.aload_n 1, 1) := by decide +kernel
theorem dL_law_46 : decode cL_law 46 = .ok (.iload_n 3, 1) := by decide +kernel
theorem dL_law_47 : decode cL_law 47 = .ok (.iload 4, 2) := by decide +kernel
theorem dL_law_49 : decode cL_law 49 = .ok (.invokevirtual 118, 3) := by decide +kernel
theorem dL_law_52 : decode cL_law 52 = .ok (.aload_n 2, 1) := by decide +kernel
theorem dL_law_53 : decode cL_law 53 = .ok (.iload_n 3, 1) := by decide +kernel
theorem dL_law_54 : decode cL_law 54 = .ok (.iload 4, 2) := by decide +kernel
theorem dL_law_56 : decode cL_law 56 = .ok (.invokevirtual 118, 3) := by decide +kernel
theorem dL_law_59 : decode cL_law 59 = .ok (.iconst 1, 1) := by decide +kernel
theorem dL_law_60 : decode cL_law 60 = .ok (.istore 5, 2) := by decide +kernel
theorem dL_law_62 : decode cL_law 62 = .ok (.iconst 1, 1) := by decide +kernel
theorem dL_law_63 : decode cL_law 63 = .ok (.istore 6, 2) := by decide +kernel
theorem dL_law_65 : decode cL_law 65 = .ok (.iload 6, 2) := by decide +kernel
theorem dL_law_67 : decode cL_law 67 = .ok (.bipush 7, 2) := by decide +kernel
theorem dL_law_69 : decode cL_law 69 = .ok (.if_icmp .ge 110, 3) := by decide +kernel
theorem dL_law_72 : decode cL_law 72 = .ok (.aload_n 0, 1) := by decide +kernel
theorem dL_law_73 : decode cL_law 73 = .ok (.iload 6, 2) := by decide +kernel
theorem dL_law_75 : decode cL_law 75 = .ok (.invokestatic 114, 3) := by decide +kernel
theorem dL_law_78 : decode cL_law 78 = .ok (.istore 7, 2) := by decide +kernel
theorem dL_law_80 : decode cL_law 80 = .ok (.iload 7, 2) := by decide +kernel
theorem dL_law_82 : decode cL_law 82 = .ok (.iload_n 3, 1) := by decide +kernel
theorem dL_law_83 : decode cL_law 83 = .ok (.invokestatic 65, 3) := by decide +kernel
theorem dL_law_86 : decode cL_law 86 = .ok (.istore 8, 2) := by decide +kernel
theorem dL_law_88 : decode cL_law 88 = .ok (.iload 8, 2) := by decide +kernel
theorem dL_law_90 : decode cL_law 90 = .ok (.iconst 1, 1) := by decide +kernel
theorem dL_law_91 : decode cL_law 91 = .ok (.iadd, 1) := by decide +kernel
theorem dL_law_92 : decode cL_law 92 = .ok (.iload 7, 2) := by decide +kernel
theorem dL_law_94 : decode cL_law 94 = .ok (.iconst 3, 1) := by decide +kernel
theorem dL_law_95 : decode cL_law 95 = .ok (.ishr, 1) := by decide +kernel
theorem dL_law_96 : decode cL_law 96 = .ok (.iload_n 3, 1) := by decide +kernel
theorem dL_law_97 : decode cL_law 97 = .ok (.iconst 1, 1) := by decide +kernel
theorem dL_law_98 : decode cL_law 98 = .ok (.isub, 1) := by decide +kernel
theorem dL_law_99 : decode cL_law 99 = .ok (.invokestatic 65, 3) := by decide +kernel
theorem dL_law_102 : decode cL_law 102 = .ok (.iadd, 1) := by decide +kernel
theorem dL_law_103 : decode cL_law 103 = .ok (.iload_n 3, 1) := by decide +kernel
theorem dL_law_104 : decode cL_law 104 = .ok (.irem, 1) := by decide +kernel
theorem dL_law_105 : decode cL_law 105 = .ok (.istore 9, 2) := by decide +kernel
theorem dL_law_107 : decode cL_law 107 = .ok (.iload 5, 2) := by decide +kernel
theorem dL_law_109 : decode cL_law 109 = .ok (.ifCond .eq 61, 3) := by decide +kernel
theorem dL_law_112 : decode cL_law 112 = .ok (.aload_n 1, 1) := by decide +kernel
theorem dL_law_113 : decode cL_law 113 = .ok (.iload 8, 2) := by decide +kernel
theorem dL_law_115 : decode cL_law 115 = .ok (.iload 9, 2) := by decide +kernel
theorem dL_law_117 : decode cL_law 117 = .ok (.iconst 1, 1) := by decide +kernel
theorem dL_law_118 : decode cL_law 118 = .ok (.iload 7, 2) := by decide +kernel
theorem dL_law_120 : decode cL_law 120 = .ok (.bipush 6, 2) := by decide +kernel
theorem dL_law_122 : decode cL_law 122 = .ok (.ishr, 1) := by decide +kernel
theorem dL_law_123 : decode cL_law 123 = .ok (.bipush 9, 2) := by decide +kernel
theorem dL_law_125 : decode cL_law 125 = .ok (.invokestatic 65, 3) := by decide +kernel
theorem dL_law_128 : decode cL_law 128 = .ok (.iadd, 1) := by decide +kernel
theorem dL_law_129 : decode cL_law 129 = .ok (.invokestatic 70, 3) := by decide +kernel
theorem dL_law_132 : decode cL_law 132 = .ok (.iload 6, 2) := by decide +kernel
theorem dL_law_134 : decode cL_law 134 = .ok (.iconst 1, 1) := by decide +kernel
theorem dL_law_135 : decode cL_law 135 = .ok (.isub, 1) := by decide +kernel
theorem dL_law_136 : decode cL_law 136 = .ok (.if_icmp .ne 34, 3) := by decide +kernel
theorem dL_law_139 : decode cL_law 139 = .ok (.aload_n 2, 1) := by decide +kernel
theorem dL_law_140 : decode cL_law 140 = .ok (.iload 8, 2) := by decide +kernel
theorem dL_law_142 : decode cL_law 142 = .ok (.iload 9, 2) := by decide +kernel
theorem dL_law_144 : decode cL_law 144 = .ok (.iconst 1, 1) := by decide +kernel
theorem dL_law_145 : decode cL_law 145 = .ok (.iload 7, 2) := by decide +kernel
theorem dL_law_147 : decode cL_law 147 = .ok (.bipush 6, 2) := by decide +kernel
theorem dL_law_149 : decode cL_law 149 = .ok (.ishr, 1) := by decide +kernel
theorem dL_law_150 : decode cL_law 150 = .ok (.bipush 9, 2) := by decide +kernel
theorem dL_law_152 : decode cL_law 152 = .ok (.invokestatic 65, 3) := by decide +kernel
theorem dL_law_155 : decode cL_law 155 = .ok (.iadd, 1) := by decide +kernel
theorem dL_law_156 : decode cL_law 156 = .ok (.invokestatic 70, 3) := by decide +kernel
theorem dL_law_159 : decode cL_law 159 = .ok (.iload 6, 2) := by decide +kernel
theorem dL_law_161 : decode cL_law 161 = .ok (.iconst 1, 1) := by decide +kernel
theorem dL_law_162 : decode cL_law 162 = .ok (.isub, 1) := by decide +kernel
theorem dL_law_163 : decode cL_law 163 = .ok (.if_icmp .ne 7, 3) := by decide +kernel
theorem dL_law_166 : decode cL_law 166 = .ok (.iconst 1, 1) := by decide +kernel
theorem dL_law_167 : decode cL_law 167 = .ok (.goto 4, 3) := by decide +kernel
theorem dL_law_170 : decode cL_law 170 = .ok (.iconst 0, 1) := by decide +kernel
theorem dL_law_171 : decode cL_law 171 = .ok (.istore 5, 2) := by decide +kernel
theorem dL_law_173 : decode cL_law 173 = .ok (.iinc 6 1, 3) := by decide +kernel
theorem dL_law_176 : decode cL_law 176 = .ok (.goto (-111), 3) := by decide +kernel
theorem dL_law_179 : decode cL_law 179 = .ok (.bipush 7, 2) := by decide +kernel
theorem dL_law_181 : decode cL_law 181 = .ok (.istore 6, 2) := by decide +kernel
theorem dL_law_183 : decode cL_law 183 = .ok (.iload 6, 2) := by decide +kernel
theorem dL_law_185 : decode cL_law 185 = .ok (.bipush 72, 2) := by decide +kernel
theorem dL_law_187 : decode cL_law 187 = .ok (.if_icmp .ge 187, 3) := by decide +kernel
theorem dL_law_190 : decode cL_law 190 = .ok (.iload 5, 2) := by decide +kernel
theorem dL_law_192 : decode cL_law 192 = .ok (.ifCond .eq 182, 3) := by decide +kernel
theorem dL_law_195 : decode cL_law 195 = .ok (.aload_n 0, 1) := by decide +kernel
theorem dL_law_196 : decode cL_law 196 = .ok (.iload 6, 2) := by decide +kernel
theorem dL_law_198 : decode cL_law 198 = .ok (.invokestatic 114, 3) := by decide +kernel
theorem dL_law_201 : decode cL_law 201 = .ok (.istore 7, 2) := by decide +kernel
theorem dL_law_203 : decode cL_law 203 = .ok (.aload_n 1, 1) := by decide +kernel
theorem dL_law_204 : decode cL_law 204 = .ok (.iload_n 3, 1) := by decide +kernel
theorem dL_law_205 : decode cL_law 205 = .ok (.iload 7, 2) := by decide +kernel
theorem dL_law_207 : decode cL_law 207 = .ok (.invokestatic 122, 3) := by decide +kernel
theorem dL_law_210 : decode cL_law 210 = .ok (.istore 8, 2) := by decide +kernel
theorem dL_law_212 : decode cL_law 212 = .ok (.iload 8, 2) := by decide +kernel
theorem dL_law_214 : decode cL_law 214 = .ok (.ldc 16, 2) := by decide +kernel
theorem dL_law_216 : decode cL_law 216 = .ok (.if_icmp .eq 15, 3) := by decide +kernel
theorem dL_law_219 : decode cL_law 219 = .ok (.aload_n 2, 1) := by decide +kernel
theorem dL_law_220 : decode cL_law 220 = .ok (.iload_n 3, 1) := by decide +kernel
theorem dL_law_221 : decode cL_law 221 = .ok (.iload 7, 2) := by decide +kernel
theorem dL_law_223 : decode cL_law 223 = .ok (.invokestatic 122, 3) := by decide +kernel
theorem dL_law_226 : decode cL_law 226 = .ok (.iload 8, 2) := by decide +kernel
theorem dL_law_228 : decode cL_law 228 = .ok (.if_icmp .ne 89, 3) := by decide +kernel
theorem dL_law_231 : decode cL_law 231 = .ok (.iload 6, 2) := by decide +kernel
theorem dL_law_233 : decode cL_law 233 = .ok (.iconst 3, 1) := by decide +kernel
theorem dL_law_234 : decode cL_law 234 = .ok (.irem, 1) := by decide +kernel
theorem dL_law_235 : decode cL_law 235 = .ok (.iconst 2, 1) := by decide +kernel
theorem dL_law_236 : decode cL_law 236 = .ok (.if_icmp .ne 11, 3) := by decide +kernel
theorem dL_law_239 : decode cL_law 239 = .ok (.aload_n 1, 1) := by decide +kernel
theorem dL_law_240 : decode cL_law 240 = .ok (.aload_n 2, 1) := by decide +kernel
theorem dL_law_241 : decode cL_law 241 = .ok (.invokestatic 125, 3) := by decide +kernel
theorem dL_law_244 : decode cL_law 244 = .ok (.ifCond .eq 73, 3) := by decide +kernel
theorem dL_law_247 : decode cL_law 247 = .ok (.iload 6, 2) := by decide +kernel
theorem dL_law_249 : decode cL_law 249 = .ok (.iconst 4, 1) := by decide +kernel
theorem dL_law_250 : decode cL_law 250 = .ok (.irem, 1) := by decide +kernel
theorem dL_law_251 : decode cL_law 251 = .ok (.iconst 1, 1) := by decide +kernel
theorem dL_law_252 : decode cL_law 252 = .ok (.if_icmp .ne 10, 3) := by decide +kernel
theorem dL_law_255 : decode cL_law 255 = .ok (.aload_n 1, 1) := by decide +kernel
theorem dL_law_256 : decode cL_law 256 = .ok (.invokestatic 129, 3) := by decide +kernel
theorem dL_law_259 : decode cL_law 259 = .ok (.ifCond .eq 58, 3) := by decide +kernel
theorem dL_law_262 : decode cL_law 262 = .ok (.iload 6, 2) := by decide +kernel
theorem dL_law_264 : decode cL_law 264 = .ok (.bipush 6, 2) := by decide +kernel
theorem dL_law_266 : decode cL_law 266 = .ok (.irem, 1) := by decide +kernel
theorem dL_law_267 : decode cL_law 267 = .ok (.iconst 3, 1) := by decide +kernel
theorem dL_law_268 : decode cL_law 268 = .ok (.if_icmp .ne 10, 3) := by decide +kernel
theorem dL_law_271 : decode cL_law 271 = .ok (.aload_n 1, 1) := by decide +kernel
theorem dL_law_272 : decode cL_law 272 = .ok (.invokestatic 133, 3) := by decide +kernel
theorem dL_law_275 : decode cL_law 275 = .ok (.ifCond .eq 42, 3) := by decide +kernel
theorem dL_law_278 : decode cL_law 278 = .ok (.iload 6, 2) := by decide +kernel
theorem dL_law_280 : decode cL_law 280 = .ok (.iconst 5, 1) := by decide +kernel
theorem dL_law_281 : decode cL_law 281 = .ok (.irem, 1) := by decide +kernel
theorem dL_law_282 : decode cL_law 282 = .ok (.iconst 4, 1) := by decide +kernel
theorem dL_law_283 : decode cL_law 283 = .ok (.if_icmp .ne 30, 3) := by decide +kernel
theorem dL_law_286 : decode cL_law 286 = .ok (.aload_n 1, 1) := by decide +kernel
theorem dL_law_287 : decode cL_law 287 = .ok (.iload 7, 2) := by decide +kernel
theorem dL_law_289 : decode cL_law 289 = .ok (.iconst 5, 1) := by decide +kernel
theorem dL_law_290 : decode cL_law 290 = .ok (.ishr, 1) := by decide +kernel
theorem dL_law_291 : decode cL_law 291 = .ok (.iload_n 3, 1) := by decide +kernel
theorem dL_law_292 : decode cL_law 292 = .ok (.invokestatic 65, 3) := by decide +kernel
theorem dL_law_295 : decode cL_law 295 = .ok (.iload 7, 2) := by decide +kernel
theorem dL_law_297 : decode cL_law 297 = .ok (.iconst 5, 1) := by decide +kernel
theorem dL_law_298 : decode cL_law 298 = .ok (.ishr, 1) := by decide +kernel
theorem dL_law_299 : decode cL_law 299 = .ok (.iload_n 3, 1) := by decide +kernel
theorem dL_law_300 : decode cL_law 300 = .ok (.invokestatic 65, 3) := by decide +kernel
theorem dL_law_303 : decode cL_law 303 = .ok (.iconst 1, 1) := by decide +kernel
theorem dL_law_304 : decode cL_law 304 = .ok (.iadd, 1) := by decide +kernel
theorem dL_law_305 : decode cL_law 305 = .ok (.iload_n 3, 1) := by decide +kernel
theorem dL_law_306 : decode cL_law 306 = .ok (.irem, 1) := by decide +kernel
theorem dL_law_307 : decode cL_law 307 = .ok (.invokestatic 136, 3) := by decide +kernel
theorem dL_law_310 : decode cL_law 310 = .ok (.ifCond .eq 7, 3) := by decide +kernel
theorem dL_law_313 : decode cL_law 313 = .ok (.iconst 1, 1) := by decide +kernel
theorem dL_law_314 : decode cL_law 314 = .ok (.goto 4, 3) := by decide +kernel
theorem dL_law_317 : decode cL_law 317 = .ok (.iconst 0, 1) := by decide +kernel
theorem dL_law_318 : decode cL_law 318 = .ok (.istore 5, 2) := by decide +kernel
theorem dL_law_320 : decode cL_law 320 = .ok (.iload 6, 2) := by decide +kernel
theorem dL_law_322 : decode cL_law 322 = .ok (.bipush 8, 2) := by decide +kernel
theorem dL_law_324 : decode cL_law 324 = .ok (.irem, 1) := by decide +kernel
theorem dL_law_325 : decode cL_law 325 = .ok (.iconst 5, 1) := by decide +kernel
theorem dL_law_326 : decode cL_law 326 = .ok (.if_icmp .ne 42, 3) := by decide +kernel
theorem dL_law_329 : decode cL_law 329 = .ok (.aload_n 1, 1) := by decide +kernel
theorem dL_law_330 : decode cL_law 330 = .ok (.invokevirtual 89, 3) := by decide +kernel
theorem dL_law_333 : decode cL_law 333 = .ok (.ifCond .le 35, 3) := by decide +kernel
theorem dL_law_336 : decode cL_law 336 = .ok (.iload 5, 2) := by decide +kernel
theorem dL_law_338 : decode cL_law 338 = .ok (.ifCond .eq 27, 3) := by decide +kernel
theorem dL_law_341 : decode cL_law 341 = .ok (.aload_n 1, 1) := by decide +kernel
theorem dL_law_342 : decode cL_law 342 = .ok (.aload_n 2, 1) := by decide +kernel
theorem dL_law_343 : decode cL_law 343 = .ok (.iload 7, 2) := by decide +kernel
theorem dL_law_345 : decode cL_law 345 = .ok (.bipush 7, 2) := by decide +kernel
theorem dL_law_347 : decode cL_law 347 = .ok (.ishr, 1) := by decide +kernel
theorem dL_law_348 : decode cL_law 348 = .ok (.aload_n 1, 1) := by decide +kernel
theorem dL_law_349 : decode cL_law 349 = .ok (.invokevirtual 89, 3) := by decide +kernel
theorem dL_law_352 : decode cL_law 352 = .ok (.invokestatic 65, 3) := by decide +kernel
theorem dL_law_355 : decode cL_law 355 = .ok (.invokestatic 140, 3) := by decide +kernel
theorem dL_law_358 : decode cL_law 358 = .ok (.ifCond .eq 7, 3) := by decide +kernel
theorem dL_law_361 : decode cL_law 361 = .ok (.iconst 1, 1) := by decide +kernel
theorem dL_law_362 : decode cL_law 362 = .ok (.goto 4, 3) := by decide +kernel
theorem dL_law_365 : decode cL_law 365 = .ok (.iconst 0, 1) := by decide +kernel
theorem dL_law_366 : decode cL_law 366 = .ok (.istore 5, 2) := by decide +kernel
theorem dL_law_368 : decode cL_law 368 = .ok (.iinc 6 1, 3) := by decide +kernel
theorem dL_law_371 : decode cL_law 371 = .ok (.goto (-188), 3) := by decide +kernel
theorem dL_law_374 : decode cL_law 374 = .ok (.iload 5, 2) := by decide +kernel
theorem dL_law_376 : decode cL_law 376 = .ok (.ifCond .eq 29, 3) := by decide +kernel
theorem dL_law_379 : decode cL_law 379 = .ok (.aload_n 1, 1) := by decide +kernel
theorem dL_law_380 : decode cL_law 380 = .ok (.aload_n 2, 1) := by decide +kernel
theorem dL_law_381 : decode cL_law 381 = .ok (.invokestatic 125, 3) := by decide +kernel
theorem dL_law_384 : decode cL_law 384 = .ok (.ifCond .eq 21, 3) := by decide +kernel
theorem dL_law_387 : decode cL_law 387 = .ok (.aload_n 1, 1) := by decide +kernel
theorem dL_law_388 : decode cL_law 388 = .ok (.invokestatic 129, 3) := by decide +kernel
theorem dL_law_391 : decode cL_law 391 = .ok (.ifCond .eq 14, 3) := by decide +kernel
theorem dL_law_394 : decode cL_law 394 = .ok (.aload_n 1, 1) := by decide +kernel
theorem dL_law_395 : decode cL_law 395 = .ok (.invokestatic 133, 3) := by decide +kernel
theorem dL_law_398 : decode cL_law 398 = .ok (.ifCond .eq 7, 3) := by decide +kernel
theorem dL_law_401 : decode cL_law 401 = .ok (.iconst 1, 1) := by decide +kernel
theorem dL_law_402 : decode cL_law 402 = .ok (.goto 4, 3) := by decide +kernel
theorem dL_law_405 : decode cL_law 405 = .ok (.iconst 0, 1) := by decide +kernel
theorem dL_law_406 : decode cL_law 406 = .ok (.ireturn, 1) := by decide +kernel
