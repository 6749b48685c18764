/-- the words of one list among another by their places -/
theorem in_places {big : List Cond} (ws : List Cond) (ps : List Nat) (hp : ws = ps.filterMap (fun i => big[i]?)) : ∀ w ∈ ws, w ∈ big := by
  intro w hw
  rw [hp] at hw
  obtain ⟨i, -, hi⟩ := List.mem_filterMap.mp hw
  exact List.mem_of_getElem? hi
set_option maxRecDepth 100000 in
theorem wsL_law_r1_in : ∀ w ∈ wsL_law_r1, w ∈ lw_tbl := in_places _ [48, 49, 37, 587, 588, 45, 50, 51, 52, 53, 54, 55, 56, 57, 38, 205, 206, 207, 208, 84, 85, 39, 209, 104] (by decide +kernel)
set_option maxRecDepth 100000 in
theorem wsL_law_r2_in : ∀ w ∈ wsL_law_r2, w ∈ lw_tbl := in_places _ [105, 40, 210, 211, 120, 121, 41, 212, 83, 213, 134, 135, 42, 214, 150, 151, 43, 215, 216, 58, 59, 60, 61, 62] (by decide +kernel)
set_option maxRecDepth 100000 in
theorem wsL_law_r3_in : ∀ w ∈ wsL_law_r3, w ∈ lw_tbl := in_places _ [64, 66, 67, 70, 86, 87, 88, 89, 90, 93, 94, 95, 92, 106, 107, 108, 109, 110, 111, 112, 122, 123, 124, 125] (by decide +kernel)
set_option maxRecDepth 100000 in
theorem wsL_law_r4_in : ∀ w ∈ wsL_law_r4, w ∈ lw_tbl := in_places _ [126, 128, 136, 137, 138, 139, 149, 140, 141, 152, 153, 154, 155, 156, 157, 44, 185, 159, 160, 161, 589, 590, 591, 592] (by decide +kernel)
set_option maxRecDepth 100000 in
theorem wsL_law_r5_in : ∀ w ∈ wsL_law_r5, w ∈ lw_tbl := in_places _ [593, 594, 595, 596, 600, 602, 603, 610, 242, 243, 244, 245, 68, 246, 247, 248, 249, 250, 251, 252, 253, 254, 255, 256] (by decide +kernel)
set_option maxRecDepth 100000 in
theorem wsL_law_r6_in : ∀ w ∈ wsL_law_r6, w ∈ lw_tbl := in_places _ [257, 258, 259, 260, 261, 262, 263, 264, 265, 266, 268, 267, 46, 269, 270, 271, 272, 648, 649, 650, 651, 652, 653, 654] (by decide +kernel)
set_option maxRecDepth 100000 in
theorem wsL_law_r7_in : ∀ w ∈ wsL_law_r7, w ∈ lw_tbl := in_places _ [655, 656, 657, 658, 660, 10, 661, 598, 599, 662, 663, 664, 273, 274, 275, 276, 277, 278, 279, 280, 281, 282, 283, 665] (by decide +kernel)
set_option maxRecDepth 100000 in
theorem wsL_law_r8_in : ∀ w ∈ wsL_law_r8, w ∈ lw_tbl := in_places _ [666, 667, 668, 669, 671, 11, 672, 284, 285, 286, 287, 288, 289, 290, 291, 292, 293, 294, 295, 296, 297, 298, 299, 300] (by decide +kernel)
set_option maxRecDepth 100000 in
theorem wsL_law_r9_in : ∀ w ∈ wsL_law_r9, w ∈ lw_tbl := in_places _ [301, 302, 304, 305, 306, 307, 308, 673, 674, 675, 676, 677, 679, 12, 680, 681, 683, 13, 684, 685, 686, 687, 309, 310] (by decide +kernel)
set_option maxRecDepth 100000 in
theorem wsL_law_r10_in : ∀ w ∈ wsL_law_r10, w ∈ lw_tbl := in_places _ [311, 312, 71, 313, 314, 315, 316, 317, 318, 319, 321, 322, 323, 325, 0, 326, 327, 328, 329, 330, 331, 332, 47, 333] (by decide +kernel)
set_option maxRecDepth 100000 in
theorem wsL_law_r11_in : ∀ w ∈ wsL_law_r11, w ∈ lw_tbl := in_places _ [334, 688, 689, 690, 691, 692, 694, 14, 695, 696, 697, 698, 335, 336, 337, 338, 339, 340, 341, 342, 343, 344, 345, 346] (by decide +kernel)
set_option maxRecDepth 100000 in
theorem wsL_law_r12_in : ∀ w ∈ wsL_law_r12, w ∈ lw_tbl := in_places _ [699, 700, 701, 702, 703, 705, 15, 706, 347, 348, 349, 350, 351, 353, 1, 354, 355, 356, 357, 358, 359, 360, 362, 2] (by decide +kernel)
set_option maxRecDepth 100000 in
theorem wsL_law_r13_in : ∀ w ∈ wsL_law_r13, w ∈ lw_tbl := in_places _ [363, 364, 366, 3, 367, 707, 708, 709, 710, 711, 713, 16, 714, 715, 717, 17, 718, 719, 720, 721, 368, 369, 370, 371] (by decide +kernel)
set_option maxRecDepth 100000 in
theorem wsL_law_r14_in : ∀ w ∈ wsL_law_r14, w ∈ lw_tbl := in_places _ [63, 65, 372, 722, 723, 724, 725, 373, 374, 375, 376, 377, 378, 379, 380, 381, 382, 383, 384, 385, 386, 387, 388, 389] (by decide +kernel)
set_option maxRecDepth 100000 in
theorem wsL_law_r15_in : ∀ w ∈ wsL_law_r15, w ∈ lw_tbl := in_places _ [391, 392, 393, 394, 395, 396, 403, 405, 406, 47, 407, 408, 409, 410, 397, 398, 399, 400, 401, 402, 404, 726, 727, 728] (by decide +kernel)
set_option maxRecDepth 100000 in
theorem wsL_law_r16_in : ∀ w ∈ wsL_law_r16, w ∈ lw_tbl := in_places _ [729, 730, 731, 732, 733, 735, 18, 736, 740, 737, 738, 739, 741, 743, 19, 744, 411, 412, 413, 414, 127, 415, 416, 417] (by decide +kernel)
set_option maxRecDepth 100000 in
theorem wsL_law_r17_in : ∀ w ∈ wsL_law_r17, w ∈ lw_tbl := in_places _ [418, 419, 421, 422, 423, 424, 425, 426, 427, 428, 429, 430, 431, 432, 433, 434, 435, 436, 437, 438, 439, 440, 441, 442] (by decide +kernel)
set_option maxRecDepth 100000 in
theorem wsL_law_r18_in : ∀ w ∈ wsL_law_r18, w ∈ lw_tbl := in_places _ [443, 444, 445, 446, 447, 448, 449, 745, 746, 747, 748, 749, 751, 20, 752, 753, 754, 756, 21, 757, 758, 760, 22, 761] (by decide +kernel)
set_option maxRecDepth 100000 in
theorem wsL_law_r19_in : ∀ w ∈ wsL_law_r19, w ∈ lw_tbl := in_places _ [762, 764, 23, 765, 766, 768, 24, 769, 450, 451, 452, 453, 96, 143, 454, 455, 456, 457, 458, 459, 460, 461, 462, 464] (by decide +kernel)
set_option maxRecDepth 100000 in
theorem wsL_law_r20_in : ∀ w ∈ wsL_law_r20, w ∈ lw_tbl := in_places _ [465, 770, 771, 772, 773, 601, 597, 774, 776, 25, 777, 778, 780, 26, 781, 466, 467, 468, 469, 470, 471, 472, 473, 474] (by decide +kernel)
set_option maxRecDepth 100000 in
theorem wsL_law_r21_in : ∀ w ∈ wsL_law_r21, w ∈ lw_tbl := in_places _ [475, 476, 478, 4, 479, 480, 481, 482, 483, 484, 782, 783, 784, 785, 786, 787, 788, 789, 791, 27, 792, 485, 486, 487] (by decide +kernel)
set_option maxRecDepth 100000 in
theorem wsL_law_r22_in : ∀ w ∈ wsL_law_r22, w ∈ lw_tbl := in_places _ [488, 489, 793, 794, 795, 796, 490, 491, 492, 493, 797, 798, 799, 800, 494, 495, 496, 497, 498, 801, 802, 803, 804, 499] (by decide +kernel)
set_option maxRecDepth 100000 in
theorem wsL_law_r23_in : ∀ w ∈ wsL_law_r23, w ∈ lw_tbl := in_places _ [500, 501, 502, 805, 806, 807, 808, 809, 810, 811, 503, 504, 505, 506, 812, 813, 814, 815, 507, 508, 509, 510, 816, 817] (by decide +kernel)
set_option maxRecDepth 100000 in
theorem wsL_law_r24_in : ∀ w ∈ wsL_law_r24, w ∈ lw_tbl := in_places _ [818, 819, 511, 512, 513, 514, 515, 516, 517, 518, 820, 821, 822, 823, 519, 520, 521, 522, 523, 524, 525, 526, 824, 825] (by decide +kernel)
set_option maxRecDepth 100000 in
theorem wsL_law_r25_in : ∀ w ∈ wsL_law_r25, w ∈ lw_tbl := in_places _ [826, 827, 527, 528, 529, 530, 828, 829, 830, 831, 531, 532, 533, 534, 191, 189, 193, 535, 536, 537, 538, 186, 188, 190] (by decide +kernel)
set_option maxRecDepth 100000 in
theorem wsL_law_r26_in : ∀ w ∈ wsL_law_r26, w ∈ lw_tbl := in_places _ [192, 142, 169, 539, 540, 541, 542, 543, 162, 163, 164, 168, 544, 545, 546, 547, 548, 549, 550, 551, 553, 5, 554, 555] (by decide +kernel)
set_option maxRecDepth 100000 in
theorem wsL_law_r27_in : ∀ w ∈ wsL_law_r27, w ∈ lw_tbl := in_places _ [557, 6, 558, 165, 166, 167, 559, 561, 7, 562, 563, 564, 565, 566, 568, 8, 569, 570, 572, 9, 573, 574, 575, 576] (by decide +kernel)
set_option maxRecDepth 100000 in
theorem wsL_law_r28_in : ∀ w ∈ wsL_law_r28, w ∈ lw_tbl := in_places _ [577, 69, 581, 582, 832, 833, 834, 835, 605, 606, 607, 836, 838, 28, 839, 604, 608, 840, 842, 29, 843, 609, 844, 846] (by decide +kernel)
set_option maxRecDepth 100000 in
theorem wsL_law_r29_in : ∀ w ∈ wsL_law_r29, w ∈ lw_tbl := in_places _ [30, 847, 848, 850, 31, 851, 852, 854, 32, 855, 856, 858, 33, 859, 860, 862, 34, 863, 864, 866, 35, 867, 868, 869] (by decide +kernel)
set_option maxRecDepth 100000 in
theorem wsL_law_r30_in : ∀ w ∈ wsL_law_r30, w ∈ lw_tbl := in_places _ [870, 583, 584, 585, 586, 187, 871, 872, 873, 874] (by decide +kernel)
theorem inX0 : ∀ w ∈ wsX00, w ∈ lw_tbl := in_places _ [113, 115, 117] (by decide +kernel)
theorem inX1 : ∀ w ∈ wsX10, w ∈ lw_tbl := in_places _ [170, 172, 174, 176, 178, 180, 182] (by decide +kernel)
theorem inX2 : ∀ w ∈ wsX20, w ∈ lw_tbl := in_places _ [97, 99, 101] (by decide +kernel)
theorem inX3 : ∀ w ∈ wsX30, w ∈ lw_tbl := in_places _ [72, 74, 76, 78, 80] (by decide +kernel)
theorem inX4 : ∀ w ∈ wsX40, w ∈ lw_tbl := in_places _ [129, 131] (by decide +kernel)
theorem inX5 : ∀ w ∈ wsX50, w ∈ lw_tbl := in_places _ [194, 196, 198, 200, 202] (by decide +kernel)
theorem inX6 : ∀ w ∈ wsX60, w ∈ lw_tbl := in_places _ [144, 146] (by decide +kernel)
theorem inX7 : ∀ w ∈ wsX70, w ∈ lw_tbl := in_places _ [217, 219, 221, 223, 225, 227, 229, 231, 233, 235, 237, 239] (by decide +kernel)
theorem inX8 : ∀ w ∈ wsX80, w ∈ lw_tbl := in_places _ [611, 613, 615, 617, 619, 621, 623, 625, 627, 629, 631, 633, 635, 637, 639, 641, 643, 645] (by decide +kernel)
theorem ap_in {a b c : List Cond} (h : ∀ w ∈ a, w ∈ c) (h2 : ∀ w ∈ b, w ∈ c) : ∀ w ∈ a ++ b, w ∈ c := fun w hw => (List.mem_append.mp hw).elim (h w) (h2 w)
theorem wsL_law_in : ∀ w ∈ wsL_law, w ∈ lw_tbl := ap_in (ap_in (ap_in (ap_in (ap_in (ap_in (ap_in (ap_in (ap_in (ap_in (ap_in wsL_law_r1_in (ap_in wsL_law_r2_in (ap_in wsL_law_r3_in (ap_in wsL_law_r4_in (ap_in wsL_law_r5_in (ap_in wsL_law_r6_in (ap_in wsL_law_r7_in (ap_in wsL_law_r8_in (ap_in wsL_law_r9_in (ap_in wsL_law_r10_in (ap_in wsL_law_r11_in (ap_in wsL_law_r12_in (ap_in wsL_law_r13_in (ap_in wsL_law_r14_in (ap_in wsL_law_r15_in (ap_in wsL_law_r16_in (ap_in wsL_law_r17_in (ap_in wsL_law_r18_in (ap_in wsL_law_r19_in (ap_in wsL_law_r20_in (ap_in wsL_law_r21_in (ap_in wsL_law_r22_in (ap_in wsL_law_r23_in (ap_in wsL_law_r24_in (ap_in wsL_law_r25_in (ap_in wsL_law_r26_in (ap_in wsL_law_r27_in (ap_in wsL_law_r28_in (ap_in wsL_law_r29_in wsL_law_r30_in))))))))))))))))))))))))))))) inX7) inX8) inX3) inX2) inX0) inX4) inX6) inX5) inX1) (fun _ h => absurd h List.not_mem_nil)
