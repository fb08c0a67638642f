theorem mem_r {big : List Cond} (ws : List Cond) (ps : List Nat) (hp : ws = ps.filterMap (fun i => big[i]?)) : ∀ w ∈ ws, w ∈ big := by
  intro w hw
  rw [hp] at hw
  obtain ⟨i, -, hi⟩ := List.mem_filterMap.mp hw
  exact List.mem_of_getElem? hi
set_option maxRecDepth 100000 in
theorem wsL_law0_r1_in : ∀ w ∈ wsL_law0_r1, w ∈ lw_tbl := mem_r wsL_law0_r1 [47, 48, 32, 554, 555, 37, 781, 782, 49, 50, 51, 52, 53, 54, 55, 90, 158, 159, 160, 57, 58, 33, 161, 91] rfl
set_option maxRecDepth 100000 in
theorem wsL_law0_r2_in : ∀ w ∈ wsL_law0_r2, w ∈ lw_tbl := mem_r wsL_law0_r2 [92, 34, 162, 124, 125, 35, 163, 140, 141, 36, 164, 165, 60, 61, 62, 63, 65, 67, 69, 71, 74, 94, 95, 96] rfl
set_option maxRecDepth 100000 in
theorem wsL_law0_r3_in : ∀ w ∈ wsL_law0_r3, w ∈ lw_tbl := mem_r wsL_law0_r3 [97, 100, 103, 106, 109, 127, 128, 129, 130, 131, 133, 143, 144, 145, 146, 147, 149, 556, 557, 558, 559, 561, 562, 563] rfl
set_option maxRecDepth 100000 in
theorem wsL_law0_r4_in : ∀ w ∈ wsL_law0_r4, w ∈ lw_tbl := mem_r wsL_law0_r4 [566, 567, 568, 569, 570, 572, 573, 574, 576, 577, 578, 642, 579, 580, 295, 296, 31, 297, 298, 299, 300, 301, 302, 303] rfl
set_option maxRecDepth 100000 in
theorem wsL_law0_r5_in : ∀ w ∈ wsL_law0_r5, w ∈ lw_tbl := mem_r wsL_law0_r5 [307, 41, 380, 42, 304, 305, 306, 376, 377, 378, 647, 648, 649, 650, 560, 651, 652, 653, 643, 644, 645, 646, 396, 397] rfl
set_option maxRecDepth 100000 in
theorem wsL_law0_r6_in : ∀ w ∈ wsL_law0_r6, w ∈ lw_tbl := mem_r wsL_law0_r6 [398, 399, 400, 401, 402, 654, 655, 656, 657, 183, 184, 185, 186, 187, 188, 189, 190, 191, 193, 0, 194, 195, 196, 197] rfl
set_option maxRecDepth 100000 in
theorem wsL_law0_r7_in : ∀ w ∈ wsL_law0_r7, w ∈ lw_tbl := mem_r wsL_law0_r7 [198, 199, 200, 201, 202, 203, 205, 1, 206, 207, 209, 2, 210, 211, 213, 3, 214, 215, 217, 4, 218, 230, 231, 43] rfl
set_option maxRecDepth 100000 in
theorem wsL_law0_r8_in : ∀ w ∈ wsL_law0_r8, w ∈ lw_tbl := mem_r wsL_law0_r8 [232, 219, 220, 221, 222, 223, 224, 225, 226, 227, 228, 229, 233, 234, 235, 236, 237, 238, 239, 240, 242, 5, 243, 244] rfl
set_option maxRecDepth 100000 in
theorem wsL_law0_r9_in : ∀ w ∈ wsL_law0_r9, w ∈ lw_tbl := mem_r wsL_law0_r9 [245, 246, 247, 248, 249, 250, 252, 6, 253, 254, 255, 256, 257, 258, 259, 260, 262, 7, 263, 264, 265, 266, 267, 268] rfl
set_option maxRecDepth 100000 in
theorem wsL_law0_r10_in : ∀ w ∈ wsL_law0_r10, w ∈ lw_tbl := mem_r wsL_law0_r10 [269, 270, 44, 271, 272, 273, 274, 275, 276, 277, 278, 279, 280, 281, 282, 284, 8, 285, 286, 287, 289, 9, 290, 291] rfl
set_option maxRecDepth 100000 in
theorem wsL_law0_r11_in : ∀ w ∈ wsL_law0_r11, w ∈ lw_tbl := mem_r wsL_law0_r11 [293, 10, 294, 658, 659, 660, 661, 564, 565, 571, 575, 581, 582, 583, 662, 664, 14, 665, 666, 668, 15, 669, 670, 671] rfl
set_option maxRecDepth 100000 in
theorem wsL_law0_r12_in : ∀ w ∈ wsL_law0_r12, w ∈ lw_tbl := mem_r wsL_law0_r12 [672, 673, 675, 16, 676, 677, 678, 679, 680, 682, 17, 683, 584, 585, 586, 684, 686, 18, 687, 688, 690, 19, 691, 692] rfl
set_option maxRecDepth 100000 in
theorem wsL_law0_r13_in : ∀ w ∈ wsL_law0_r13, w ∈ lw_tbl := mem_r wsL_law0_r13 [694, 20, 695, 696, 698, 21, 699, 700, 702, 22, 703, 704, 706, 23, 707, 708, 709, 711, 24, 712, 713, 715, 25, 716] rfl
set_option maxRecDepth 100000 in
theorem wsL_law0_r14_in : ∀ w ∈ wsL_law0_r14, w ∈ lw_tbl := mem_r wsL_law0_r14 [403, 404, 405, 406, 407, 408, 409, 410, 412, 12, 413, 717, 718, 719, 720, 721, 723, 26, 724, 725, 726, 727, 728, 730] rfl
set_option maxRecDepth 100000 in
theorem wsL_law0_r15_in : ∀ w ∈ wsL_law0_r15, w ∈ lw_tbl := mem_r wsL_law0_r15 [27, 731, 416, 417, 418, 419, 420, 421, 422, 423, 424, 45, 732, 733, 734, 735, 441, 442, 443, 444, 445, 446, 447, 736] rfl
set_option maxRecDepth 100000 in
theorem wsL_law0_r16_in : ∀ w ∈ wsL_law0_r16, w ∈ lw_tbl := mem_r wsL_law0_r16 [737, 738, 739, 450, 451, 452, 453, 454, 455, 456, 457, 459, 13, 460, 462, 463, 464, 465, 466, 467, 468, 469, 740, 741] rfl
set_option maxRecDepth 100000 in
theorem wsL_law0_r17_in : ∀ w ∈ wsL_law0_r17, w ∈ lw_tbl := mem_r wsL_law0_r17 [742, 743, 744, 746, 28, 747, 470, 471, 472, 473, 474, 475, 476, 477, 478, 46, 748, 749, 750, 751, 495, 496, 497, 498] rfl
set_option maxRecDepth 100000 in
theorem wsL_law0_r18_in : ∀ w ∈ wsL_law0_r18, w ∈ lw_tbl := mem_r wsL_law0_r18 [499, 500, 501, 502, 503, 504, 506, 507, 508, 509, 510, 511, 512, 513, 514, 515, 516, 517, 518, 519, 520, 752, 753, 754] rfl
set_option maxRecDepth 100000 in
theorem wsL_law0_r19_in : ∀ w ∈ wsL_law0_r19, w ∈ lw_tbl := mem_r wsL_law0_r19 [755, 756, 758, 29, 759, 760, 762, 30, 763, 764, 765, 766, 521, 522, 523, 524, 525, 526, 527, 767, 768, 769, 770, 529] rfl
set_option maxRecDepth 100000 in
theorem wsL_law0_r20_in : ∀ w ∈ wsL_law0_r20, w ∈ lw_tbl := mem_r wsL_law0_r20 [530, 531, 532, 533, 534, 535, 536, 538, 539, 540, 771, 772, 773, 774, 775, 776, 541, 542, 543, 544, 545, 546, 547, 549] rfl
set_option maxRecDepth 100000 in
theorem wsL_law0_r21_in : ∀ w ∈ wsL_law0_r21, w ∈ lw_tbl := mem_r wsL_law0_r21 [548, 550, 551, 552, 553, 777, 778, 779, 780] rfl
set_option maxRecDepth 100000 in
theorem wsX40_in : ∀ w ∈ wsX40, w ∈ lw_tbl := mem_r wsX40 [166, 168, 170, 172, 174, 176, 178, 180] rfl
set_option maxRecDepth 100000 in
theorem wsX50_in : ∀ w ∈ wsX50, w ∈ lw_tbl := mem_r wsX50 [587, 589, 591, 593, 595, 597, 599, 601, 603, 605, 607, 609, 611, 613, 615, 617, 619, 621, 623, 625, 627, 629, 631, 633, 635, 637, 639] rfl
set_option maxRecDepth 100000 in
theorem wsX00_in : ∀ w ∈ wsX00, w ∈ lw_tbl := mem_r wsX00 [77, 79, 81, 83, 85, 87] rfl
set_option maxRecDepth 100000 in
theorem wsX30_in : ∀ w ∈ wsX30, w ∈ lw_tbl := mem_r wsX30 [113, 115, 117, 119, 121] rfl
set_option maxRecDepth 100000 in
theorem wsX20_in : ∀ w ∈ wsX20, w ∈ lw_tbl := mem_r wsX20 [135, 137] rfl
set_option maxRecDepth 100000 in
theorem wsX10_in : ∀ w ∈ wsX10, w ∈ lw_tbl := mem_r wsX10 [151, 153, 155] rfl
theorem wsL_law_in0 : ∀ w ∈ wsL_law0, w ∈ lw_tbl := fun w h => (List.mem_append.mp h).elim (fun h => (List.mem_append.mp h).elim (fun h => (List.mem_append.mp h).elim (fun h => (List.mem_append.mp h).elim (fun h => (List.mem_append.mp h).elim (fun h => (List.mem_append.mp h).elim (fun h => (List.mem_append.mp h).elim (fun h => (List.mem_append.mp h).elim (fun h => wsL_law0_r1_in w h) (fun h => (List.mem_append.mp h).elim (fun h => wsL_law0_r2_in w h) (fun h => (List.mem_append.mp h).elim (fun h => wsL_law0_r3_in w h) (fun h => (List.mem_append.mp h).elim (fun h => wsL_law0_r4_in w h) (fun h => (List.mem_append.mp h).elim (fun h => wsL_law0_r5_in w h) (fun h => (List.mem_append.mp h).elim (fun h => wsL_law0_r6_in w h) (fun h => (List.mem_append.mp h).elim (fun h => wsL_law0_r7_in w h) (fun h => (List.mem_append.mp h).elim (fun h => wsL_law0_r8_in w h) (fun h => (List.mem_append.mp h).elim (fun h => wsL_law0_r9_in w h) (fun h => (List.mem_append.mp h).elim (fun h => wsL_law0_r10_in w h) (fun h => (List.mem_append.mp h).elim (fun h => wsL_law0_r11_in w h) (fun h => (List.mem_append.mp h).elim (fun h => wsL_law0_r12_in w h) (fun h => (List.mem_append.mp h).elim (fun h => wsL_law0_r13_in w h) (fun h => (List.mem_append.mp h).elim (fun h => wsL_law0_r14_in w h) (fun h => (List.mem_append.mp h).elim (fun h => wsL_law0_r15_in w h) (fun h => (List.mem_append.mp h).elim (fun h => wsL_law0_r16_in w h) (fun h => (List.mem_append.mp h).elim (fun h => wsL_law0_r17_in w h) (fun h => (List.mem_append.mp h).elim (fun h => wsL_law0_r18_in w h) (fun h => (List.mem_append.mp h).elim (fun h => wsL_law0_r19_in w h) (fun h => (List.mem_append.mp h).elim (fun h => wsL_law0_r20_in w h) (fun h => wsL_law0_r21_in w h))))))))))))))))))))) (fun h => wsX40_in w h)) (fun h => wsX50_in w h)) (fun h => wsX00_in w h)) (fun h => wsX30_in w h)) (fun h => wsX20_in w h)) (fun h => wsX10_in w h)) (fun h => absurd h List.not_mem_nil)
