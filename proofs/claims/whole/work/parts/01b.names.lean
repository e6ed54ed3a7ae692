theorem mem_r {big : List Cond} (ws : List Cond) (ps : List Nat) (hp : ws = ps.filterMap (fun i => big[i]?)) : ∀ w ∈ ws, w ∈ big := by
  intro w hw
  rw [hp] at hw
  obtain ⟨i, -, hi⟩ := List.mem_filterMap.mp hw
  exact List.mem_of_getElem? hi
theorem mem_app {big a b : List Cond} (ha : ∀ w ∈ a, w ∈ big) (hb : ∀ w ∈ b, w ∈ big) : ∀ w ∈ a ++ b, w ∈ big := fun w h => (List.mem_append.mp h).elim (ha w) (hb w)
set_option maxRecDepth 20000 in
theorem wsLi_1 : ∀ w ∈ wsL_law_r1, w ∈ lw_tbl := mem_r _ [76, 77, 61, 731, 732, 72, 78, 79, 80, 81, 82, 83, 84, 85, 62, 305, 113, 114, 63, 306, 149, 120, 64, 307] (by decide +kernel)
set_option maxRecDepth 20000 in
theorem wsLi_2 : ∀ w ∈ wsL_law_r2, w ∈ lw_tbl := mem_r _ [151, 152, 66, 308, 168, 169, 67, 309, 206, 207, 69, 310, 254, 255, 70, 311, 273, 274, 71, 312, 87, 88, 89, 90] (by decide +kernel)
set_option maxRecDepth 20000 in
theorem wsLi_3 : ∀ w ∈ wsL_law_r3, w ∈ lw_tbl := mem_r _ [95, 99, 112, 102, 116, 117, 118, 138, 140, 119, 141, 121, 122, 123, 124, 125, 126, 65, 127, 128, 129, 130, 131, 132] (by decide +kernel)
set_option maxRecDepth 20000 in
theorem wsLi_4 : ∀ w ∈ wsL_law_r4, w ∈ lw_tbl := mem_r _ [150, 154, 155, 156, 157, 159, 160, 171, 172, 173, 184, 185, 186, 187, 188, 189, 174, 175, 68, 190, 177, 178, 179, 180] (by decide +kernel)
set_option maxRecDepth 20000 in
theorem wsLi_5 : ∀ w ∈ wsL_law_r5, w ∈ lw_tbl := mem_r _ [209, 210, 211, 212, 214, 216, 217, 218, 219, 220, 221, 222, 223, 224, 225, 226, 257, 258, 259, 260, 261, 262, 263, 276] (by decide +kernel)
set_option maxRecDepth 20000 in
theorem wsLi_6 : ∀ w ∈ wsL_law_r6, w ∈ lw_tbl := mem_r _ [277, 278, 281, 283, 285, 286, 287, 288, 279, 289, 733, 734, 735, 736, 737, 741, 742, 743, 745, 748, 749, 750, 751, 752] (by decide +kernel)
set_option maxRecDepth 20000 in
theorem wsLi_7 : ∀ w ∈ wsL_law_r7, w ∈ lw_tbl := mem_r _ [330, 331, 332, 333, 92, 96, 158, 139, 100, 498, 334, 335, 336, 337, 338, 340, 0, 341, 342, 344, 1, 345, 346, 347] (by decide +kernel)
set_option maxRecDepth 20000 in
theorem wsLi_8 : ∀ w ∈ wsL_law_r8, w ∈ lw_tbl := mem_r _ [348, 349, 350, 351, 73, 352, 353, 354, 74, 355, 356, 357, 358, 359, 360, 362, 2, 363, 364, 365, 366, 367, 368, 369] (by decide +kernel)
set_option maxRecDepth 20000 in
theorem wsLi_9 : ∀ w ∈ wsL_law_r9, w ∈ lw_tbl := mem_r _ [370, 371, 372, 373, 374, 375, 377, 3, 378, 379, 380, 75, 381, 382, 383, 384, 385, 386, 387, 388, 389, 390, 391, 392] (by decide +kernel)
set_option maxRecDepth 20000 in
theorem wsLi_10 : ∀ w ∈ wsL_law_r10, w ∈ lw_tbl := mem_r _ [393, 394, 395, 396, 397, 399, 4, 400, 401, 403, 5, 404, 405, 407, 6, 408, 409, 410, 411, 412, 91, 473, 413, 415] (by decide +kernel)
set_option maxRecDepth 20000 in
theorem wsLi_11 : ∀ w ∈ wsL_law_r11, w ∈ lw_tbl := mem_r _ [7, 416, 97, 417, 418, 419, 420, 421, 422, 423, 424, 425, 427, 8, 428, 429, 430, 431, 432, 433, 434, 436, 9, 437] (by decide +kernel)
set_option maxRecDepth 20000 in
theorem wsLi_12 : ∀ w ∈ wsL_law_r12, w ∈ lw_tbl := mem_r _ [438, 440, 10, 441, 442, 443, 444, 445, 446, 447, 448, 450, 11, 451, 452, 454, 12, 455, 456, 458, 13, 459, 460, 462] (by decide +kernel)
set_option maxRecDepth 20000 in
theorem wsLi_13 : ∀ w ∈ wsL_law_r13, w ∈ lw_tbl := mem_r _ [14, 463, 464, 466, 15, 467, 468, 470, 16, 471, 472, 474, 475, 476, 477, 478, 480, 17, 481, 482, 483, 484, 485, 487] (by decide +kernel)
set_option maxRecDepth 20000 in
theorem wsLi_14 : ∀ w ∈ wsL_law_r14, w ∈ lw_tbl := mem_r _ [486, 488, 489, 490, 491, 492, 494, 18, 495, 94, 496, 497, 789, 790, 791, 792, 747, 744, 738, 740, 879, 793, 795, 23] (by decide +kernel)
set_option maxRecDepth 20000 in
theorem wsLi_15 : ∀ w ∈ wsL_law_r15, w ∈ lw_tbl := mem_r _ [796, 797, 799, 24, 800, 746, 801, 803, 25, 804, 805, 807, 26, 808, 809, 811, 27, 812, 813, 814, 815, 816, 818, 28] (by decide +kernel)
set_option maxRecDepth 20000 in
theorem wsLi_16 : ∀ w ∈ wsL_law_r16, w ∈ lw_tbl := mem_r _ [819, 820, 822, 29, 823, 824, 826, 30, 827, 828, 829, 830, 831, 833, 31, 834, 835, 837, 32, 838, 839, 841, 33, 842] (by decide +kernel)
set_option maxRecDepth 20000 in
theorem wsLi_17 : ∀ w ∈ wsL_law_r17, w ∈ lw_tbl := mem_r _ [855, 843, 845, 34, 846, 847, 849, 35, 850, 851, 853, 36, 854, 856, 858, 37, 859, 860, 862, 38, 863, 864, 866, 39] (by decide +kernel)
set_option maxRecDepth 20000 in
theorem wsLi_18 : ∀ w ∈ wsL_law_r18, w ∈ lw_tbl := mem_r _ [867, 868, 870, 40, 871, 872, 874, 41, 875, 876, 877, 878, 499, 500, 501, 502, 504, 503, 505, 506, 507, 508, 509, 510] (by decide +kernel)
set_option maxRecDepth 20000 in
theorem wsLi_19 : ∀ w ∈ wsL_law_r19, w ∈ lw_tbl := mem_r _ [511, 512, 513, 514, 515, 516, 517, 518, 519, 520, 521, 522, 880, 881, 882, 883, 884, 885, 887, 42, 888, 889, 891, 43] (by decide +kernel)
set_option maxRecDepth 20000 in
theorem wsLi_20 : ∀ w ∈ wsL_law_r20, w ∈ lw_tbl := mem_r _ [892, 893, 895, 44, 896, 897, 899, 45, 900, 523, 524, 525, 526, 527, 901, 902, 903, 904, 528, 529, 530, 531, 532, 533] (by decide +kernel)
set_option maxRecDepth 20000 in
theorem wsLi_21 : ∀ w ∈ wsL_law_r21, w ∈ lw_tbl := mem_r _ [534, 535, 905, 906, 907, 908, 909, 911, 46, 912, 536, 537, 538, 539, 540, 541, 542, 543, 913, 914, 915, 916, 544, 545] (by decide +kernel)
set_option maxRecDepth 20000 in
theorem wsLi_22 : ∀ w ∈ wsL_law_r22, w ∈ lw_tbl := mem_r _ [546, 547, 548, 549, 550, 551, 917, 918, 919, 920, 552, 553, 554, 555, 556, 557, 921, 922, 923, 924, 929, 925, 927, 47] (by decide +kernel)
set_option maxRecDepth 20000 in
theorem wsLi_23 : ∀ w ∈ wsL_law_r23, w ∈ lw_tbl := mem_r _ [928, 558, 559, 560, 561, 213, 215, 562, 563, 564, 565, 566, 567, 568, 930, 931, 932, 933, 934, 936, 48, 937, 569, 570] (by decide +kernel)
set_option maxRecDepth 20000 in
theorem wsLi_24 : ∀ w ∈ wsL_law_r24, w ∈ lw_tbl := mem_r _ [571, 572, 282, 284, 573, 574, 575, 576, 577, 578, 579, 581, 19, 582, 583, 584, 585, 587, 20, 588, 589, 591, 21, 592] (by decide +kernel)
set_option maxRecDepth 20000 in
theorem wsLi_25 : ∀ w ∈ wsL_law_r25, w ∈ lw_tbl := mem_r _ [593, 594, 938, 939, 940, 941, 942, 944, 49, 945, 946, 948, 50, 949, 950, 952, 51, 953, 954, 956, 52, 957, 595, 596] (by decide +kernel)
set_option maxRecDepth 20000 in
theorem wsLi_26 : ∀ w ∈ wsL_law_r26, w ∈ lw_tbl := mem_r _ [597, 598, 599, 600, 601, 602, 612, 603, 604, 605, 606, 93, 98, 101, 607, 609, 22, 610, 611, 958, 959, 960, 961, 962] (by decide +kernel)
set_option maxRecDepth 20000 in
theorem wsLi_27 : ∀ w ∈ wsL_law_r27, w ∈ lw_tbl := mem_r _ [963, 964, 966, 53, 967, 968, 970, 54, 971, 613, 614, 615, 616, 622, 617, 618, 619, 620, 621, 623, 624, 625, 626, 627] (by decide +kernel)
set_option maxRecDepth 20000 in
theorem wsLi_28 : ∀ w ∈ wsL_law_r28, w ∈ lw_tbl := mem_r _ [972, 973, 974, 975, 976, 977, 979, 55, 980, 628, 629, 630, 631, 632, 633, 634, 635, 639, 636, 637, 638, 640, 641, 642] (by decide +kernel)
set_option maxRecDepth 20000 in
theorem wsLi_29 : ∀ w ∈ wsL_law_r29, w ∈ lw_tbl := mem_r _ [643, 644, 645, 646, 981, 982, 983, 984, 985, 987, 56, 988, 989, 991, 57, 992, 993, 995, 58, 996, 647, 648, 649, 650] (by decide +kernel)
set_option maxRecDepth 20000 in
theorem wsLi_30 : ∀ w ∈ wsL_law_r30, w ∈ lw_tbl := mem_r _ [651, 652, 653, 997, 998, 999, 1000, 1001, 654, 655, 656, 657, 1002, 1003, 1004, 1005, 658, 659, 660, 661, 662, 663, 664, 665] (by decide +kernel)
set_option maxRecDepth 20000 in
theorem wsLi_31 : ∀ w ∈ wsL_law_r31, w ∈ lw_tbl := mem_r _ [1006, 1007, 1008, 1009, 666, 667, 668, 669, 670, 671, 672, 673, 674, 675, 676, 677, 1010, 1011, 1012, 1013, 1014, 753, 1015, 1017] (by decide +kernel)
set_option maxRecDepth 20000 in
theorem wsLi_32 : ∀ w ∈ wsL_law_r32, w ∈ lw_tbl := mem_r _ [59, 1018, 1019, 1020, 1021, 1022, 678, 679, 680, 681, 682, 683, 684, 685, 686, 687, 688, 689, 690, 691, 692, 693, 694, 1023] (by decide +kernel)
set_option maxRecDepth 20000 in
theorem wsLi_33 : ∀ w ∈ wsL_law_r33, w ∈ lw_tbl := mem_r _ [1024, 1025, 1026, 1027, 695, 696, 697, 698, 699, 700, 701, 702, 703, 704, 705, 706, 707, 1028, 1029, 1030, 1031, 708, 709, 710] (by decide +kernel)
set_option maxRecDepth 20000 in
theorem wsLi_34 : ∀ w ∈ wsL_law_r34, w ∈ lw_tbl := mem_r _ [711, 1032, 1033, 1034, 1035, 712, 713, 714, 715, 1036, 1037, 1038, 1039, 716, 717, 718, 719, 720, 1040, 1041, 1042, 1043, 739, 721] (by decide +kernel)
set_option maxRecDepth 20000 in
theorem wsLi_35 : ∀ w ∈ wsL_law_r35, w ∈ lw_tbl := mem_r _ [722, 723, 724, 725, 726, 727, 728, 729, 730, 1044, 1045, 1046, 1047] (by decide +kernel)
set_option maxRecDepth 20000 in
theorem wsLi_X0 : ∀ w ∈ wsX00, w ∈ lw_tbl := mem_r _ [161, 163, 165] (by decide +kernel)
set_option maxRecDepth 20000 in
theorem wsLi_X1 : ∀ w ∈ wsX10, w ∈ lw_tbl := mem_r _ [191, 193, 195, 197, 199, 201, 203] (by decide +kernel)
set_option maxRecDepth 20000 in
theorem wsLi_X2 : ∀ w ∈ wsX20, w ∈ lw_tbl := mem_r _ [142, 144, 146] (by decide +kernel)
set_option maxRecDepth 20000 in
theorem wsLi_X4 : ∀ w ∈ wsX40, w ∈ lw_tbl := mem_r _ [264, 266, 268, 270] (by decide +kernel)
set_option maxRecDepth 20000 in
theorem wsLi_X5 : ∀ w ∈ wsX50, w ∈ lw_tbl := mem_r _ [133, 135] (by decide +kernel)
set_option maxRecDepth 20000 in
theorem wsLi_X6 : ∀ w ∈ wsX60, w ∈ lw_tbl := mem_r _ [181] (by decide +kernel)
set_option maxRecDepth 20000 in
theorem wsLi_X7 : ∀ w ∈ wsX70, w ∈ lw_tbl := mem_r _ [103, 105, 107, 109] (by decide +kernel)
set_option maxRecDepth 20000 in
theorem wsLi_X8 : ∀ w ∈ wsX80, w ∈ lw_tbl := mem_r _ [290, 292, 294, 296, 298, 300, 302] (by decide +kernel)
set_option maxRecDepth 20000 in
theorem wsLi_X9 : ∀ w ∈ wsX90, w ∈ lw_tbl := mem_r _ [227, 229, 231, 233, 235, 237, 239, 241, 243, 245, 247, 249, 251] (by decide +kernel)
set_option maxRecDepth 20000 in
theorem wsLi_X10 : ∀ w ∈ wsX100, w ∈ lw_tbl := mem_r _ [313, 315, 317, 319, 321, 323, 325, 327] (by decide +kernel)
set_option maxRecDepth 20000 in
theorem wsLi_X11 : ∀ w ∈ wsX110, w ∈ lw_tbl := mem_r _ [754, 756, 758, 760, 762, 764, 766, 768, 770, 772, 774, 776, 778, 780, 782, 784, 786] (by decide +kernel)
theorem wsL_law_in : ∀ w ∈ wsL_law, w ∈ lw_tbl := mem_app (mem_app (mem_app (mem_app (mem_app (mem_app (mem_app (mem_app (mem_app (mem_app (mem_app (mem_app (mem_app (wsLi_1) (mem_app (wsLi_2) (mem_app (wsLi_3) (mem_app (wsLi_4) (mem_app (wsLi_5) (mem_app (wsLi_6) (mem_app (wsLi_7) (mem_app (wsLi_8) (mem_app (wsLi_9) (mem_app (wsLi_10) (mem_app (wsLi_11) (mem_app (wsLi_12) (mem_app (wsLi_13) (mem_app (wsLi_14) (mem_app (wsLi_15) (mem_app (wsLi_16) (mem_app (wsLi_17) (mem_app (wsLi_18) (mem_app (wsLi_19) (mem_app (wsLi_20) (mem_app (wsLi_21) (mem_app (wsLi_22) (mem_app (wsLi_23) (mem_app (wsLi_24) (mem_app (wsLi_25) (mem_app (wsLi_26) (mem_app (wsLi_27) (mem_app (wsLi_28) (mem_app (wsLi_29) (mem_app (wsLi_30) (mem_app (wsLi_31) (mem_app (wsLi_32) (mem_app (wsLi_33) (mem_app (wsLi_34) (wsLi_35))))))))))))))))))))))))))))))))))) (wsLi_X10)) (wsLi_X11)) (wsLi_X7)) (wsLi_X2)) (wsLi_X5)) (wsLi_X0)) (wsLi_X1)) (wsLi_X9)) (wsLi_X4)) (wsLi_X8)) (wsLi_X6)) (fun _ h => absurd h List.not_mem_nil)
