/-! THE LAW'S WORDS are among the tables' -/
theorem mem_r {big : List Cond} (ws : List Cond) (ps : List Nat) (h : ws = ps.filterMap (fun i => big[i]?)) : ∀ w ∈ ws, w ∈ big := by
  intro w hw
  rw [h] at hw
  obtain ⟨i, -, hi⟩ := List.mem_filterMap.mp hw
  exact List.mem_of_getElem? hi
set_option maxRecDepth 20000 in
theorem lwr_1 : ∀ w ∈ wsL_law_r1, w ∈ lw_tbl := mem_r _ [50, 51, 35, 679, 680, 45, 52, 53, 54, 55, 56, 57, 58, 59, 36, 195, 69, 70, 37, 196, 111, 112, 40, 197] (by decide +kernel)
set_option maxRecDepth 20000 in
theorem lwr_2 : ∀ w ∈ wsL_law_r2, w ∈ lw_tbl := mem_r _ [127, 128, 41, 198, 147, 148, 42, 199, 165, 166, 43, 200, 184, 185, 44, 201, 194, 68, 202, 203, 226, 204, 60, 61] (by decide +kernel)
set_option maxRecDepth 20000 in
theorem lwr_3 : ∀ w ∈ wsL_law_r3, w ∈ lw_tbl := mem_r _ [62, 63, 64, 72, 73, 74, 75, 76, 38, 101, 85, 86, 39, 102, 103, 78, 79, 80, 81, 88, 89, 90, 91, 92] (by decide +kernel)
set_option maxRecDepth 20000 in
theorem lwr_4 : ∀ w ∈ wsL_law_r4, w ∈ lw_tbl := mem_r _ [114, 115, 116, 117, 118, 130, 131, 132, 133, 137, 135, 138, 139, 134, 150, 151, 152, 153, 155, 168, 169, 170, 171, 172] (by decide +kernel)
set_option maxRecDepth 20000 in
theorem lwr_5 : ∀ w ∈ wsL_law_r5, w ∈ lw_tbl := mem_r _ [173, 187, 188, 189, 681, 682, 683, 684, 685, 686, 687, 689, 725, 690, 691, 693, 695, 696, 697, 227, 228, 229, 230, 386] (by decide +kernel)
set_option maxRecDepth 20000 in
theorem lwr_6 : ∀ w ∈ wsL_law_r6, w ∈ lw_tbl := mem_r _ [231, 232, 233, 234, 235, 237, 0, 238, 239, 240, 241, 242, 243, 244, 245, 246, 247, 248, 250, 1, 251, 252, 253, 254] (by decide +kernel)
set_option maxRecDepth 20000 in
theorem lwr_7 : ∀ w ∈ wsL_law_r7, w ∈ lw_tbl := mem_r _ [255, 256, 257, 46, 258, 259, 260, 261, 262, 263, 264, 265, 266, 267, 269, 270, 271, 272, 273, 274, 275, 276, 277, 278] (by decide +kernel)
set_option maxRecDepth 20000 in
theorem lwr_8 : ∀ w ∈ wsL_law_r8, w ∈ lw_tbl := mem_r _ [279, 93, 280, 281, 47, 282, 283, 285, 286, 287, 288, 289, 290, 291, 292, 293, 294, 295, 296, 297, 298, 299, 301, 2] (by decide +kernel)
set_option maxRecDepth 20000 in
theorem lwr_9 : ∀ w ∈ wsL_law_r9, w ∈ lw_tbl := mem_r _ [302, 303, 304, 305, 306, 307, 308, 48, 309, 310, 311, 312, 313, 314, 315, 316, 317, 318, 319, 320, 321, 322, 323, 46] (by decide +kernel)
set_option maxRecDepth 20000 in
theorem lwr_10 : ∀ w ∈ wsL_law_r10, w ∈ lw_tbl := mem_r _ [324, 325, 326, 327, 328, 119, 329, 330, 331, 333, 3, 334, 335, 336, 337, 338, 339, 340, 341, 342, 343, 344, 345, 346] (by decide +kernel)
set_option maxRecDepth 20000 in
theorem lwr_11 : ∀ w ∈ wsL_law_r11, w ∈ lw_tbl := mem_r _ [347, 348, 349, 350, 351, 352, 353, 354, 355, 356, 174, 357, 359, 4, 360, 361, 362, 363, 364, 365, 366, 367, 368, 369] (by decide +kernel)
set_option maxRecDepth 20000 in
theorem lwr_12 : ∀ w ∈ wsL_law_r12, w ∈ lw_tbl := mem_r _ [370, 371, 372, 373, 374, 375, 376, 377, 378, 379, 380, 381, 382, 383, 384, 385, 157, 726, 727, 728, 729, 694, 688, 803] (by decide +kernel)
set_option maxRecDepth 20000 in
theorem lwr_13 : ∀ w ∈ wsL_law_r13, w ∈ lw_tbl := mem_r _ [730, 732, 9, 733, 734, 736, 10, 737, 738, 740, 11, 741, 742, 744, 12, 745, 746, 748, 13, 749, 750, 752, 14, 753] (by decide +kernel)
set_option maxRecDepth 20000 in
theorem lwr_14 : ∀ w ∈ wsL_law_r14, w ∈ lw_tbl := mem_r _ [754, 756, 15, 757, 758, 759, 760, 761, 762, 763, 764, 766, 16, 767, 768, 770, 17, 771, 772, 774, 18, 775, 776, 778] (by decide +kernel)
set_option maxRecDepth 20000 in
theorem lwr_15 : ∀ w ∈ wsL_law_r15, w ∈ lw_tbl := mem_r _ [19, 779, 780, 782, 20, 783, 784, 786, 21, 787, 788, 789, 790, 791, 793, 22, 794, 795, 797, 23, 798, 799, 801, 24] (by decide +kernel)
set_option maxRecDepth 20000 in
theorem lwr_16 : ∀ w ∈ wsL_law_r16, w ∈ lw_tbl := mem_r _ [802, 387, 388, 389, 390, 396, 391, 393, 5, 394, 395, 397, 398, 399, 400, 401, 402, 403, 404, 405, 406, 407, 408, 409] (by decide +kernel)
set_option maxRecDepth 20000 in
theorem lwr_17 : ∀ w ∈ wsL_law_r17, w ∈ lw_tbl := mem_r _ [411, 412, 413, 414, 415, 416, 417, 419, 6, 420, 421, 422, 423, 424, 425, 426, 427, 428, 429, 430, 431, 432, 433, 434] (by decide +kernel)
set_option maxRecDepth 20000 in
theorem lwr_18 : ∀ w ∈ wsL_law_r18, w ∈ lw_tbl := mem_r _ [435, 804, 805, 806, 807, 812, 808, 810, 25, 811, 813, 815, 26, 816, 817, 819, 27, 820, 821, 823, 28, 824, 436, 437] (by decide +kernel)
set_option maxRecDepth 20000 in
theorem lwr_19 : ∀ w ∈ wsL_law_r19, w ∈ lw_tbl := mem_r _ [438, 439, 440, 441, 442, 443, 444, 445, 446, 447, 825, 826, 827, 828, 448, 449, 450, 451, 452, 453, 829, 830, 831, 832] (by decide +kernel)
set_option maxRecDepth 20000 in
theorem lwr_20 : ∀ w ∈ wsL_law_r20, w ∈ lw_tbl := mem_r _ [833, 834, 454, 455, 456, 457, 458, 459, 835, 836, 837, 838, 460, 461, 462, 463, 464, 465, 466, 467, 839, 840, 841, 842] (by decide +kernel)
set_option maxRecDepth 20000 in
theorem lwr_21 : ∀ w ∈ wsL_law_r21, w ∈ lw_tbl := mem_r _ [468, 469, 470, 471, 472, 473, 474, 475, 156, 483, 484, 485, 476, 477, 478, 479, 480, 482, 481, 49, 486, 487, 488, 489] (by decide +kernel)
set_option maxRecDepth 20000 in
theorem lwr_22 : ∀ w ∈ wsL_law_r22, w ∈ lw_tbl := mem_r _ [843, 844, 845, 846, 847, 849, 29, 850, 490, 491, 492, 493, 504, 494, 495, 496, 497, 498, 499, 500, 501, 502, 503, 505] (by decide +kernel)
set_option maxRecDepth 20000 in
theorem lwr_23 : ∀ w ∈ wsL_law_r23, w ∈ lw_tbl := mem_r _ [506, 507, 508, 509, 510, 511, 512, 851, 852, 853, 854, 858, 855, 856, 857, 859, 861, 30, 862, 513, 514, 515, 516, 517] (by decide +kernel)
set_option maxRecDepth 20000 in
theorem lwr_24 : ∀ w ∈ wsL_law_r24, w ∈ lw_tbl := mem_r _ [518, 519, 520, 521, 522, 523, 863, 864, 865, 866, 524, 525, 526, 527, 867, 868, 869, 870, 528, 529, 530, 531, 871, 872] (by decide +kernel)
set_option maxRecDepth 20000 in
theorem lwr_25 : ∀ w ∈ wsL_law_r25, w ∈ lw_tbl := mem_r _ [873, 874, 532, 533, 534, 535, 536, 537, 538, 539, 875, 876, 877, 878, 540, 541, 542, 543, 544, 545, 546, 547, 879, 880] (by decide +kernel)
set_option maxRecDepth 20000 in
theorem lwr_26 : ∀ w ∈ wsL_law_r26, w ∈ lw_tbl := mem_r _ [881, 882, 548, 549, 550, 551, 883, 884, 885, 886, 552, 553, 554, 555, 556, 557, 558, 559, 560, 561, 562, 563, 887, 888] (by decide +kernel)
set_option maxRecDepth 20000 in
theorem lwr_27 : ∀ w ∈ wsL_law_r27, w ∈ lw_tbl := mem_r _ [889, 890, 891, 893, 31, 894, 564, 565, 566, 567, 568, 569, 570, 571, 572, 574, 7, 575, 190, 576, 577, 578, 579, 580] (by decide +kernel)
set_option maxRecDepth 20000 in
theorem lwr_28 : ∀ w ∈ wsL_law_r28, w ∈ lw_tbl := mem_r _ [895, 896, 897, 898, 899, 901, 32, 902, 692, 903, 904, 905, 906, 581, 582, 583, 584, 585, 586, 587, 588, 589, 590, 591] (by decide +kernel)
set_option maxRecDepth 20000 in
theorem lwr_29 : ∀ w ∈ wsL_law_r29, w ∈ lw_tbl := mem_r _ [592, 593, 594, 907, 908, 909, 910, 911, 595, 596, 597, 598, 599, 600, 601, 602, 603, 604, 605, 606, 607, 608, 609, 611] (by decide +kernel)
set_option maxRecDepth 20000 in
theorem lwr_30 : ∀ w ∈ wsL_law_r30, w ∈ lw_tbl := mem_r _ [8, 612, 613, 614, 615, 616, 617, 618, 619, 620, 621, 912, 913, 914, 915, 916, 918, 33, 919, 622, 623, 624, 625, 626] (by decide +kernel)
set_option maxRecDepth 20000 in
theorem lwr_31 : ∀ w ∈ wsL_law_r31, w ∈ lw_tbl := mem_r _ [627, 628, 629, 920, 921, 922, 923, 630, 631, 632, 633, 634, 635, 636, 637, 638, 639, 640, 641, 924, 925, 926, 927, 642] (by decide +kernel)
set_option maxRecDepth 20000 in
theorem lwr_32 : ∀ w ∈ wsL_law_r32, w ∈ lw_tbl := mem_r _ [643, 644, 645, 646, 647, 648, 649, 928, 929, 930, 931, 650, 651, 652, 653, 654, 655, 656, 657, 658, 659, 660, 661, 932] (by decide +kernel)
set_option maxRecDepth 20000 in
theorem lwr_33 : ∀ w ∈ wsL_law_r33, w ∈ lw_tbl := mem_r _ [933, 934, 935, 662, 663, 664, 665, 666, 667, 668, 669, 670, 671, 672, 673, 936, 937, 938, 939, 674, 675, 676, 677, 678] (by decide +kernel)
set_option maxRecDepth 20000 in
theorem lwr_34 : ∀ w ∈ wsL_law_r34, w ∈ lw_tbl := mem_r _ [940, 941, 942, 943] (by decide +kernel)
set_option maxRecDepth 20000 in
theorem lwx_0 : ∀ w ∈ wsX00, w ∈ lw_tbl := mem_r _ [175, 177, 179, 181] (by decide +kernel)
set_option maxRecDepth 20000 in
theorem lwx_1 : ∀ w ∈ wsX10, w ∈ lw_tbl := mem_r _ [191] (by decide +kernel)
set_option maxRecDepth 20000 in
theorem lwx_2 : ∀ w ∈ wsX20, w ∈ lw_tbl := mem_r _ [140, 142, 144] (by decide +kernel)
set_option maxRecDepth 20000 in
theorem lwx_3 : ∀ w ∈ wsX30, w ∈ lw_tbl := mem_r _ [158, 160, 162] (by decide +kernel)
set_option maxRecDepth 20000 in
theorem lwx_4 : ∀ w ∈ wsX40, w ∈ lw_tbl := mem_r _ [120, 122, 124] (by decide +kernel)
set_option maxRecDepth 20000 in
theorem lwx_5 : ∀ w ∈ wsX50, w ∈ lw_tbl := mem_r _ [82] (by decide +kernel)
set_option maxRecDepth 20000 in
theorem lwx_6 : ∀ w ∈ wsX60, w ∈ lw_tbl := mem_r _ [94, 96, 98] (by decide +kernel)
set_option maxRecDepth 20000 in
theorem lwx_7 : ∀ w ∈ wsX70, w ∈ lw_tbl := mem_r _ [65] (by decide +kernel)
set_option maxRecDepth 20000 in
theorem lwx_8 : ∀ w ∈ wsX80, w ∈ lw_tbl := mem_r _ [104, 106, 108] (by decide +kernel)
set_option maxRecDepth 20000 in
theorem lwx_9 : ∀ w ∈ wsX90, w ∈ lw_tbl := mem_r _ [205, 207, 209, 211, 213, 215, 217, 219, 221, 223] (by decide +kernel)
set_option maxRecDepth 20000 in
theorem lwx_10 : ∀ w ∈ wsX100, w ∈ lw_tbl := mem_r _ [698, 700, 702, 704, 706, 708, 710, 712, 714, 716, 718, 720, 722] (by decide +kernel)
theorem wsL_law_in : ∀ w ∈ wsL_law, w ∈ lw_tbl := by
  unfold wsL_law
  exact (List.forall_mem_append.mpr ⟨(List.forall_mem_append.mpr ⟨(List.forall_mem_append.mpr ⟨(List.forall_mem_append.mpr ⟨(List.forall_mem_append.mpr ⟨(List.forall_mem_append.mpr ⟨(List.forall_mem_append.mpr ⟨(List.forall_mem_append.mpr ⟨(List.forall_mem_append.mpr ⟨(List.forall_mem_append.mpr ⟨(List.forall_mem_append.mpr ⟨(List.forall_mem_append.mpr ⟨(List.forall_mem_append.mpr ⟨lwr_1, (List.forall_mem_append.mpr ⟨lwr_2, (List.forall_mem_append.mpr ⟨lwr_3, (List.forall_mem_append.mpr ⟨lwr_4, (List.forall_mem_append.mpr ⟨lwr_5, (List.forall_mem_append.mpr ⟨lwr_6, (List.forall_mem_append.mpr ⟨lwr_7, (List.forall_mem_append.mpr ⟨lwr_8, (List.forall_mem_append.mpr ⟨lwr_9, (List.forall_mem_append.mpr ⟨lwr_10, (List.forall_mem_append.mpr ⟨lwr_11, (List.forall_mem_append.mpr ⟨lwr_12, (List.forall_mem_append.mpr ⟨lwr_13, (List.forall_mem_append.mpr ⟨lwr_14, (List.forall_mem_append.mpr ⟨lwr_15, (List.forall_mem_append.mpr ⟨lwr_16, (List.forall_mem_append.mpr ⟨lwr_17, (List.forall_mem_append.mpr ⟨lwr_18, (List.forall_mem_append.mpr ⟨lwr_19, (List.forall_mem_append.mpr ⟨lwr_20, (List.forall_mem_append.mpr ⟨lwr_21, (List.forall_mem_append.mpr ⟨lwr_22, (List.forall_mem_append.mpr ⟨lwr_23, (List.forall_mem_append.mpr ⟨lwr_24, (List.forall_mem_append.mpr ⟨lwr_25, (List.forall_mem_append.mpr ⟨lwr_26, (List.forall_mem_append.mpr ⟨lwr_27, (List.forall_mem_append.mpr ⟨lwr_28, (List.forall_mem_append.mpr ⟨lwr_29, (List.forall_mem_append.mpr ⟨lwr_30, (List.forall_mem_append.mpr ⟨lwr_31, (List.forall_mem_append.mpr ⟨lwr_32, (List.forall_mem_append.mpr ⟨lwr_33, lwr_34⟩)⟩)⟩)⟩)⟩)⟩)⟩)⟩)⟩)⟩)⟩)⟩)⟩)⟩)⟩)⟩)⟩)⟩)⟩)⟩)⟩)⟩)⟩)⟩)⟩)⟩)⟩)⟩)⟩)⟩)⟩)⟩)⟩), lwx_9⟩), lwx_10⟩), lwx_7⟩), lwx_8⟩), lwx_4⟩), lwx_2⟩), lwx_3⟩), lwx_0⟩), lwx_1⟩), lwx_5⟩), lwx_6⟩), fun _ h => absurd h List.not_mem_nil⟩)
theorem lwa_0 : Cond.arrayOver (.array .int) ∈ lw_tbl := List.mem_of_getElem? (i := 154) (by decide +kernel)
theorem lwa_1 : Cond.arrayClass .int ∈ lw_tbl := List.mem_of_getElem? (i := 68) (by decide +kernel)
theorem lwa_2 : Cond.arrayClass .boolean ∈ lw_tbl := List.mem_of_getElem? (i := 226) (by decide +kernel)
theorem lwa_3 : Cond.arrayClass .long ∈ lw_tbl := List.mem_of_getElem? (i := 725) (by decide +kernel)
theorem lwn_0 : Cond.methodLinkNest RX7 41 yX9_isWithin RX9 ∈ lw_tbl := List.mem_of_getElem? (i := 268) (by decide +kernel)
theorem lwn_1 : Cond.methodLinkNest RX6 34 yX9_isInSet RX9 ∈ lw_tbl := List.mem_of_getElem? (i := 284) (by decide +kernel)
theorem lwn_2 : Cond.methodLinkNest RX8 81 yX9_isInSet RX9 ∈ lw_tbl := List.mem_of_getElem? (i := 410) (by decide +kernel)
theorem lwn_3 : Cond.methodLinkNest RX9 18 yX8_init RX9 ∈ lw_tbl := List.mem_of_getElem? (i := 71) (by decide +kernel)
theorem lwn_4 : Cond.methodLinkNest RX9 25 yX4_init RX9 ∈ lw_tbl := List.mem_of_getElem? (i := 113) (by decide +kernel)
theorem lwn_5 : Cond.methodLinkNest RX9 32 yX2_init RX9 ∈ lw_tbl := List.mem_of_getElem? (i := 129) (by decide +kernel)
theorem lwn_6 : Cond.methodLinkNest RX9 39 yX3_init RX9 ∈ lw_tbl := List.mem_of_getElem? (i := 149) (by decide +kernel)
theorem lwn_7 : Cond.methodLinkNest RX9 46 yX0_init RX9 ∈ lw_tbl := List.mem_of_getElem? (i := 167) (by decide +kernel)
theorem lwn_8 : Cond.methodLinkNest RX9 53 yX1_init RX9 ∈ lw_tbl := List.mem_of_getElem? (i := 186) (by decide +kernel)
theorem lwn_9 : Cond.methodLinkNest RX2 20 yX5_init RX9 ∈ lw_tbl := List.mem_of_getElem? (i := 136) (by decide +kernel)
theorem lwn_10 : Cond.methodLinkNest RX8 11 yX5_init RX9 ∈ lw_tbl := List.mem_of_getElem? (i := 77) (by decide +kernel)
theorem lwn_11 : Cond.methodLinkNest RX8 20 yX6_init RX9 ∈ lw_tbl := List.mem_of_getElem? (i := 87) (by decide +kernel)
