/-! the law's words lie in the table's words -/
theorem wsL_mem {big : List Cond} (ws : List Cond) (ps : List Nat) (hp : ws = ps.filterMap (fun i => big[i]?)) : ∀ w ∈ ws, w ∈ big := by
  intro w hw
  rw [hp] at hw
  obtain ⟨i, -, hi⟩ := List.mem_filterMap.mp hw
  exact List.mem_of_getElem? hi
theorem wsL_step {big ws : List Cond} {n m : Nat} (h1 : ∀ w ∈ (ws.drop n).take m, w ∈ big) (h2 : ∀ w ∈ ws.drop (n + m), w ∈ big) : ∀ w ∈ ws.drop n, w ∈ big := by
  intro w hw
  rw [← List.take_append_drop m (ws.drop n), List.mem_append, List.drop_drop] at hw
  rcases hw with hw | hw
  · exact h1 w hw
  · exact h2 w hw
set_option maxRecDepth 200000 in
set_option maxHeartbeats 4000000 in
theorem wsL_c0 : ∀ w ∈ (wsL_law0.drop 0).take 60, w ∈ lw_tbl := wsL_mem _ [42, 43, 28, 372, 44, 45, 46, 47, 48, 49, 50, 51, 29, 222, 87, 88, 30, 223, 169, 170, 32, 224, 185, 225, 187, 33, 227, 86, 228, 53, 54, 55, 56, 57, 66, 67, 68, 89, 90, 91, 92, 130, 136, 137, 125, 138, 93, 139, 95, 140, 132, 97, 31, 99, 100, 101, 172, 173, 174, 175] rfl
set_option maxRecDepth 200000 in
set_option maxHeartbeats 4000000 in
theorem wsL_c60 : ∀ w ∈ (wsL_law0.drop 60).take 60, w ∈ lw_tbl := wsL_mem _ [176, 188, 189, 190, 191, 192, 196, 198, 194, 327, 328, 27, 329, 330, 331, 332, 333, 247, 248, 249, 250, 251, 37, 226, 229, 319, 320, 321, 322, 59, 62, 64, 334, 335, 336, 337, 338, 339, 340, 341, 342, 356, 38, 343, 345, 1, 346, 347, 348, 349, 350, 352, 353, 354, 355, 373, 374, 375, 376, 377] rfl
set_option maxRecDepth 200000 in
set_option maxHeartbeats 4000000 in
theorem wsL_c120 : ∀ w ∈ (wsL_law0.drop 120).take 60, w ∈ lw_tbl := wsL_mem _ [378, 379, 380, 381, 382, 206, 383, 384, 385, 388, 390, 2, 391, 65, 204, 392, 393, 394, 395, 110, 203, 396, 397, 398, 399, 205, 400, 401, 402, 403, 199, 201, 404, 406, 3, 407, 408, 410, 4, 411, 58, 131, 412, 413, 414, 415, 416, 417, 418, 419, 420, 422, 5, 423, 424, 425, 426, 427, 428, 429] rfl
set_option maxRecDepth 200000 in
set_option maxHeartbeats 4000000 in
theorem wsL_c180 : ∀ w ∈ (wsL_law0.drop 180).take 60, w ∈ lw_tbl := wsL_mem _ [430, 431, 102, 432, 433, 434, 435, 109, 436, 437, 438, 439, 113, 440, 441, 442, 443, 61, 444, 446, 6, 447, 133, 134, 135, 141, 448, 450, 7, 451, 452, 454, 8, 455, 456, 458, 9, 459, 460, 462, 10, 463, 464, 465, 466, 467, 104, 107, 468, 470, 11, 471, 473, 474, 475, 476, 477, 478, 479, 480] rfl
set_option maxRecDepth 200000 in
set_option maxHeartbeats 4000000 in
theorem wsL_c240 : ∀ w ∈ (wsL_law0.drop 240).take 60, w ∈ lw_tbl := wsL_mem _ [481, 482, 483, 484, 485, 486, 487, 488, 490, 12, 491, 126, 128, 492, 493, 494, 495, 496, 497, 498, 499, 500, 501, 502, 503, 111, 504, 506, 13, 507, 508, 509, 510, 105, 511, 513, 14, 514, 127, 129, 516, 518, 15, 519, 520, 522, 523, 524, 525, 526, 527, 528, 529, 530, 531, 532, 533, 534, 535, 536] rfl
set_option maxRecDepth 200000 in
set_option maxHeartbeats 4000000 in
theorem wsL_c300 : ∀ w ∈ (wsL_law0.drop 300).take 60, w ∈ lw_tbl := wsL_mem _ [537, 538, 539, 540, 541, 542, 544, 16, 545, 546, 39, 563, 565, 17, 566, 567, 568, 569, 570, 572, 573, 574, 575, 576, 578, 18, 579, 582, 583, 584, 585, 195, 586, 587, 588, 589, 200, 202, 197, 106, 590, 592, 19, 593, 597, 598, 599, 600, 601, 602, 604, 20, 605, 606, 608, 21, 609, 611, 612, 613] rfl
set_option maxRecDepth 200000 in
set_option maxHeartbeats 4000000 in
theorem wsL_c360 : ∀ w ∈ (wsL_law0.drop 360).take 60, w ∈ lw_tbl := wsL_mem _ [614, 615, 616, 617, 618, 619, 621, 22, 622, 108, 60, 623, 624, 625, 626, 627, 628, 629, 630, 631, 632, 633, 635, 636, 637, 638, 639, 640, 641, 63, 323, 324, 325, 326, 643, 644, 645, 646, 647, 648, 649, 656, 657, 41, 658, 650, 651, 40, 652, 653, 654, 655, 659, 660, 661, 662, 664, 665, 666, 667] rfl
set_option maxRecDepth 200000 in
set_option maxHeartbeats 4000000 in
theorem wsL_c420 : ∀ w ∈ (wsL_law0.drop 420).take 60, w ∈ lw_tbl := wsL_mem _ [668, 669, 670, 103, 671, 673, 23, 674, 676, 677, 678, 679, 681, 682, 683, 684, 685, 687, 688, 689, 690, 691, 692, 693, 694, 695, 696, 697, 698, 699, 700, 701, 702, 703, 704, 112, 705, 706, 707, 708, 177, 709, 710, 711, 712, 713, 714, 715, 716, 717, 719, 24, 720, 721, 722, 724, 25, 725, 726, 728] rfl
set_option maxRecDepth 200000 in
set_option maxHeartbeats 4000000 in
theorem wsL_c480 : ∀ w ∈ (wsL_law0.drop 480).take 60, w ∈ lw_tbl := wsL_mem _ [26, 729, 730, 731, 732, 733, 734, 735, 736, 737, 738, 739, 741, 742, 743, 230, 232, 234, 236, 238, 240, 242, 244, 69, 71, 73, 75, 77, 79, 81, 83, 142, 144, 146, 148, 150, 152, 154, 156, 158, 160, 162, 164, 166, 178, 180, 182, 207, 209, 211, 213, 215, 217, 219, 114, 116, 118, 120, 122] rfl
set_option maxRecDepth 200000 in
theorem wsL_e : ∀ w ∈ wsL_law0.drop 540, w ∈ lw_tbl := fun w h => by
  have e : wsL_law0.drop 540 = [] := rfl
  rw [e] at h
  cases h
theorem wsL_d480 : ∀ w ∈ wsL_law0.drop 480, w ∈ lw_tbl := wsL_step (n := 480) (m := 60) wsL_c480 wsL_e
theorem wsL_d420 : ∀ w ∈ wsL_law0.drop 420, w ∈ lw_tbl := wsL_step (n := 420) (m := 60) wsL_c420 wsL_d480
theorem wsL_d360 : ∀ w ∈ wsL_law0.drop 360, w ∈ lw_tbl := wsL_step (n := 360) (m := 60) wsL_c360 wsL_d420
theorem wsL_d300 : ∀ w ∈ wsL_law0.drop 300, w ∈ lw_tbl := wsL_step (n := 300) (m := 60) wsL_c300 wsL_d360
theorem wsL_d240 : ∀ w ∈ wsL_law0.drop 240, w ∈ lw_tbl := wsL_step (n := 240) (m := 60) wsL_c240 wsL_d300
theorem wsL_d180 : ∀ w ∈ wsL_law0.drop 180, w ∈ lw_tbl := wsL_step (n := 180) (m := 60) wsL_c180 wsL_d240
theorem wsL_d120 : ∀ w ∈ wsL_law0.drop 120, w ∈ lw_tbl := wsL_step (n := 120) (m := 60) wsL_c120 wsL_d180
theorem wsL_d60 : ∀ w ∈ wsL_law0.drop 60, w ∈ lw_tbl := wsL_step (n := 60) (m := 60) wsL_c60 wsL_d120
theorem wsL_d0 : ∀ w ∈ wsL_law0.drop 0, w ∈ lw_tbl := wsL_step (n := 0) (m := 60) wsL_c0 wsL_d60
theorem wsL_law_in0 : ∀ w ∈ wsL_law0, w ∈ lw_tbl := wsL_d0
