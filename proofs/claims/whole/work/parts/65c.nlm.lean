set_option maxRecDepth 20000 in
theorem mem_ix {big ws : List Cond} (ps : List Nat) (hp : ws = ps.filterMap (fun i => big[i]?)) : ∀ w ∈ ws, w ∈ big := by
  intro w hw
  rw [hp] at hw
  obtain ⟨i, -, hi⟩ := List.mem_filterMap.mp hw
  exact List.mem_of_getElem? hi
theorem inX0 : ∀ w ∈ wsX00, w ∈ lw_tbl := by decide +kernel
theorem inX1 : ∀ w ∈ wsX10, w ∈ lw_tbl := by decide +kernel
theorem inX2 : ∀ w ∈ wsX20, w ∈ lw_tbl := by decide +kernel
set_option maxRecDepth 20000 in
theorem wsL_law0_r1_in : ∀ w ∈ wsL_law0_r1, w ∈ lw_tbl := mem_ix [59, 60, 47, 601, 602, 50, 873, 874, 872, 61, 62, 63, 64, 65, 66, 122, 125, 126, 123, 127, 67, 68, 48, 128] (by decide +kernel)
set_option maxRecDepth 20000 in
theorem wsL_law0_r2_in : ∀ w ∈ wsL_law0_r2, w ∈ lw_tbl := mem_ix [129, 130, 131, 132, 133, 134, 159, 135, 70, 71, 72, 76, 78, 80, 82, 84, 85, 86, 88, 90, 92, 94, 95, 73] (by decide +kernel)
set_option maxRecDepth 20000 in
theorem wsL_law0_r3_in : ∀ w ∈ wsL_law0_r3, w ∈ lw_tbl := mem_ix [74, 49, 75, 603, 604, 605, 606, 608, 612, 614, 615, 616, 618, 619, 620, 621, 613, 190, 191, 46, 192, 193, 194, 195] (by decide +kernel)
set_option maxRecDepth 20000 in
theorem wsL_law0_r4_in : ∀ w ∈ wsL_law0_r4, w ∈ lw_tbl := mem_ix [196, 197, 198, 270, 55, 199, 200, 201, 202, 54, 657, 658, 659, 660, 661, 609, 662, 663, 664, 665, 667, 30, 668, 607] (by decide +kernel)
set_option maxRecDepth 20000 in
theorem wsL_law0_r5_in : ∀ w ∈ wsL_law0_r5, w ∈ lw_tbl := mem_ix [653, 654, 655, 656, 160, 161, 162, 163, 669, 670, 671, 672, 164, 165, 166, 167, 168, 170, 0, 171, 176, 172, 174, 1] (by decide +kernel)
set_option maxRecDepth 20000 in
theorem wsL_law0_r6_in : ∀ w ∈ wsL_law0_r6, w ∈ lw_tbl := mem_ix [175, 178, 180, 182, 184, 2, 185, 673, 674, 675, 676, 677, 679, 31, 680, 610, 611, 681, 683, 32, 684, 689, 685, 686] (by decide +kernel)
set_option maxRecDepth 20000 in
theorem wsL_law0_r7_in : ∀ w ∈ wsL_law0_r7, w ∈ lw_tbl := mem_ix [687, 688, 690, 692, 33, 693, 286, 287, 288, 289, 290, 291, 292, 296, 4, 297, 298, 300, 299, 56, 303, 5, 304, 307] (by decide +kernel)
set_option maxRecDepth 20000 in
theorem wsL_law0_r8_in : ∀ w ∈ wsL_law0_r8, w ∈ lw_tbl := mem_ix [6, 308, 694, 695, 696, 697, 617, 698, 699, 700, 701, 703, 34, 704, 309, 310, 311, 312, 313, 314, 315, 318, 7, 319] (by decide +kernel)
set_option maxRecDepth 20000 in
theorem wsL_law0_r9_in : ∀ w ∈ wsL_law0_r9, w ∈ lw_tbl := mem_ix [705, 706, 707, 708, 709, 711, 35, 712, 713, 714, 715, 320, 321, 322, 323, 324, 325, 326, 716, 717, 718, 719, 327, 328] (by decide +kernel)
set_option maxRecDepth 20000 in
theorem wsL_law0_r10_in : ∀ w ∈ wsL_law0_r10, w ∈ lw_tbl := mem_ix [329, 330, 331, 332, 333, 334, 335, 337, 8, 338, 339, 57, 357, 9, 358, 359, 361, 10, 362, 363, 365, 11, 366, 720] (by decide +kernel)
set_option maxRecDepth 20000 in
theorem wsL_law0_r11_in : ∀ w ∈ wsL_law0_r11, w ∈ lw_tbl := mem_ix [721, 722, 723, 724, 726, 36, 727, 728, 729, 730, 731, 732, 733, 734, 735, 736, 737, 738, 739, 367, 368, 369, 370, 371] (by decide +kernel)
set_option maxRecDepth 20000 in
theorem wsL_law0_r12_in : ∀ w ∈ wsL_law0_r12, w ∈ lw_tbl := mem_ix [372, 373, 376, 12, 377, 380, 13, 381, 740, 741, 742, 743, 744, 746, 37, 747, 748, 749, 750, 186, 187, 188, 189, 751] (by decide +kernel)
set_option maxRecDepth 20000 in
theorem wsL_law0_r13_in : ∀ w ∈ wsL_law0_r13, w ∈ lw_tbl := mem_ix [752, 753, 754, 382, 383, 384, 385, 386, 387, 388, 391, 14, 392, 755, 756, 757, 758, 393, 394, 395, 396, 397, 398, 399] (by decide +kernel)
set_option maxRecDepth 20000 in
theorem wsL_law0_r14_in : ∀ w ∈ wsL_law0_r14, w ∈ lw_tbl := mem_ix [400, 402, 15, 403, 404, 405, 406, 409, 16, 410, 413, 17, 414, 415, 417, 18, 418, 419, 420, 422, 19, 423, 424, 426] (by decide +kernel)
set_option maxRecDepth 20000 in
theorem wsL_law0_r15_in : ∀ w ∈ wsL_law0_r15, w ∈ lw_tbl := mem_ix [20, 427, 428, 429, 58, 430, 431, 433, 21, 434, 435, 436, 437, 439, 22, 440, 441, 443, 23, 444, 445, 446, 447, 759] (by decide +kernel)
set_option maxRecDepth 20000 in
theorem wsL_law0_r16_in : ∀ w ∈ wsL_law0_r16, w ∈ lw_tbl := mem_ix [760, 761, 762, 763, 764, 766, 38, 767, 768, 770, 39, 771, 772, 774, 40, 775, 776, 778, 41, 779, 780, 781, 782, 783] (by decide +kernel)
set_option maxRecDepth 20000 in
theorem wsL_law0_r17_in : ∀ w ∈ wsL_law0_r17, w ∈ lw_tbl := mem_ix [785, 42, 786, 448, 449, 450, 451, 452, 453, 454, 787, 788, 789, 790, 791, 792, 793, 455, 456, 457, 458, 459, 460, 461] (by decide +kernel)
set_option maxRecDepth 20000 in
theorem wsL_law0_r18_in : ∀ w ∈ wsL_law0_r18, w ∈ lw_tbl := mem_ix [794, 795, 796, 797, 798, 800, 43, 801, 462, 463, 464, 465, 466, 467, 468, 802, 803, 804, 805, 806, 469, 470, 471, 472] (by decide +kernel)
set_option maxRecDepth 20000 in
theorem wsL_law0_r19_in : ∀ w ∈ wsL_law0_r19, w ∈ lw_tbl := mem_ix [473, 474, 475, 476, 478, 24, 479, 807, 808, 809, 810, 481, 482, 483, 484, 485, 486, 487, 811, 812, 813, 814, 489, 490] (by decide +kernel)
set_option maxRecDepth 20000 in
theorem wsL_law0_r20_in : ∀ w ∈ wsL_law0_r20, w ∈ lw_tbl := mem_ix [491, 492, 493, 494, 495, 815, 816, 817, 818, 497, 498, 499, 500, 501, 502, 503, 819, 820, 821, 822, 504, 505, 506, 507] (by decide +kernel)
set_option maxRecDepth 20000 in
theorem wsL_law0_r21_in : ∀ w ∈ wsL_law0_r21, w ∈ lw_tbl := mem_ix [508, 509, 510, 823, 824, 825, 826, 511, 512, 513, 514, 515, 516, 517, 827, 828, 829, 830, 518, 519, 520, 521, 522, 523] (by decide +kernel)
set_option maxRecDepth 20000 in
theorem wsL_law0_r22_in : ∀ w ∈ wsL_law0_r22, w ∈ lw_tbl := mem_ix [524, 525, 527, 25, 528, 529, 531, 26, 532, 533, 831, 832, 833, 834, 835, 836, 838, 44, 839, 534, 535, 536, 537, 538] (by decide +kernel)
set_option maxRecDepth 20000 in
theorem wsL_law0_r23_in : ∀ w ∈ wsL_law0_r23, w ∈ lw_tbl := mem_ix [539, 540, 840, 841, 842, 843, 541, 542, 543, 544, 545, 546, 547, 844, 845, 846, 847, 848, 548, 549, 550, 551, 552, 553] (by decide +kernel)
set_option maxRecDepth 20000 in
theorem wsL_law0_r24_in : ∀ w ∈ wsL_law0_r24, w ∈ lw_tbl := mem_ix [554, 558, 555, 556, 557, 560, 562, 27, 563, 564, 566, 28, 567, 849, 850, 851, 852, 853, 854, 856, 45, 857, 569, 570] (by decide +kernel)
set_option maxRecDepth 20000 in
theorem wsL_law0_r25_in : ∀ w ∈ wsL_law0_r25, w ∈ lw_tbl := mem_ix [571, 572, 573, 574, 575, 576, 577, 578, 580, 29, 581, 858, 859, 860, 861, 862, 863, 582, 583, 584, 585, 586, 587, 588] (by decide +kernel)
set_option maxRecDepth 20000 in
theorem wsL_law0_r26_in : ∀ w ∈ wsL_law0_r26, w ∈ lw_tbl := mem_ix [589, 590, 591, 864, 865, 866, 867, 593, 594, 595, 596, 597, 598, 599, 868, 869, 870, 871] (by decide +kernel)
set_option maxRecDepth 20000 in
theorem wsL_law_x0 : ∀ w ∈ (vx_atS RX1 59 "java/lang/IllegalStateException" ["java/lang/RuntimeException", "java/lang/Exception"]).filter goodWord, w ∈ lw_tbl := by decide +kernel
set_option maxRecDepth 20000 in
theorem wsL_law_x1 : ∀ w ∈ (vx_atS RX1 183 "java/lang/IllegalArgumentException" ["java/lang/RuntimeException", "java/lang/Exception"]).filter goodWord, w ∈ lw_tbl := by decide +kernel
set_option maxRecDepth 20000 in
theorem wsL_law_x2 : ∀ w ∈ (vx_atS RX1 215 "java/lang/IndexOutOfBoundsException" ["java/lang/RuntimeException", "java/lang/Exception"]).filter goodWord, w ∈ lw_tbl := by decide +kernel
set_option maxRecDepth 20000 in
theorem inJx145de : ∀ w ∈ wsJx145de0, w ∈ lw_tbl := by decide +kernel
set_option maxRecDepth 20000 in
theorem inJ9 : ∀ w ∈ wsJ90, w ∈ lw_tbl := by decide +kernel
set_option maxRecDepth 20000 in
theorem inJ0 : ∀ w ∈ wsJ00, w ∈ lw_tbl := by decide +kernel
set_option maxRecDepth 20000 in
theorem inJ10 : ∀ w ∈ wsJ100, w ∈ lw_tbl := by decide +kernel
set_option maxRecDepth 20000 in
theorem inJ7 : ∀ w ∈ wsJ70, w ∈ lw_tbl := by decide +kernel
set_option maxRecDepth 20000 in
theorem wsL_law_in0 : ∀ w ∈ wsL_law0, w ∈ lw_tbl := fun w h => (List.mem_append.mp h).elim (fun h => (List.mem_append.mp h).elim (fun h => (List.mem_append.mp h).elim (fun h => (List.mem_append.mp h).elim (fun h => (List.mem_append.mp h).elim (fun h => wsL_law0_r1_in w h) (fun h => (List.mem_append.mp h).elim (fun h => wsL_law0_r2_in w h) (fun h => (List.mem_append.mp h).elim (fun h => wsL_law0_r3_in w h) (fun h => (List.mem_append.mp h).elim (fun h => wsL_law0_r4_in w h) (fun h => (List.mem_append.mp h).elim (fun h => wsL_law0_r5_in w h) (fun h => (List.mem_append.mp h).elim (fun h => wsL_law0_r6_in w h) (fun h => (List.mem_append.mp h).elim (fun h => wsL_law0_r7_in w h) (fun h => (List.mem_append.mp h).elim (fun h => wsL_law0_r8_in w h) (fun h => (List.mem_append.mp h).elim (fun h => wsL_law0_r9_in w h) (fun h => (List.mem_append.mp h).elim (fun h => wsL_law0_r10_in w h) (fun h => (List.mem_append.mp h).elim (fun h => wsL_law0_r11_in w h) (fun h => (List.mem_append.mp h).elim (fun h => wsL_law0_r12_in w h) (fun h => (List.mem_append.mp h).elim (fun h => wsL_law0_r13_in w h) (fun h => (List.mem_append.mp h).elim (fun h => wsL_law0_r14_in w h) (fun h => (List.mem_append.mp h).elim (fun h => wsL_law0_r15_in w h) (fun h => (List.mem_append.mp h).elim (fun h => wsL_law0_r16_in w h) (fun h => (List.mem_append.mp h).elim (fun h => wsL_law0_r17_in w h) (fun h => (List.mem_append.mp h).elim (fun h => wsL_law0_r18_in w h) (fun h => (List.mem_append.mp h).elim (fun h => wsL_law0_r19_in w h) (fun h => (List.mem_append.mp h).elim (fun h => wsL_law0_r20_in w h) (fun h => (List.mem_append.mp h).elim (fun h => wsL_law0_r21_in w h) (fun h => (List.mem_append.mp h).elim (fun h => wsL_law0_r22_in w h) (fun h => (List.mem_append.mp h).elim (fun h => wsL_law0_r23_in w h) (fun h => (List.mem_append.mp h).elim (fun h => wsL_law0_r24_in w h) (fun h => (List.mem_append.mp h).elim (fun h => wsL_law0_r25_in w h) (fun h => wsL_law0_r26_in w h)))))))))))))))))))))))))) (inX1 w)) (inX2 w)) (inX0 w)) (fun h => absurd h List.not_mem_nil)
theorem wsL_law_in : ∀ w ∈ wsL_law, w ∈ lw_tbl := fun w h => (List.mem_append.mp h).elim (fun h => (List.mem_append.mp h).elim (fun h => (List.mem_append.mp h).elim (fun h => wsL_law_in0 w h) (fun h => wsL_law_x0 w h)) (fun h => wsL_law_x1 w h)) (fun h => wsL_law_x2 w h)
