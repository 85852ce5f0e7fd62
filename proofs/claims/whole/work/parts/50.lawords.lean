theorem goodIn_rr {big : List Cond} (ws : List Cond) (ps : List Nat) (hp : ws = ps.filterMap (fun i => big[i]?)) : ∀ w ∈ ws, w ∈ big := by
  intro w hw
  rw [hp] at hw
  obtain ⟨i, -, hi⟩ := List.mem_filterMap.mp hw
  exact List.mem_of_getElem? hi
set_option maxRecDepth 100000 in
theorem TB_lw0 : ∀ w ∈ TB_0, w ∈ lw_tbl := fun w h => (goodIn_rr TB_0 [67, 68, 69, 70, 71, 72, 73, 74, 76, 78, 79, 80, 81, 82, 83, 84, 85, 86, 87, 88, 89, 91, 96, 99, 100, 101, 102, 103, 104, 106, 108, 110, 112, 114, 116, 118, 121, 122, 123, 124, 125, 126, 127, 128, 129, 131, 132, 133, 135, 138, 140, 143, 146, 148, 149, 151, 153, 155, 157, 159] (by decide +kernel)) w h
set_option maxRecDepth 100000 in
theorem TB_lw1 : ∀ w ∈ TB_1, w ∈ lw_tbl := fun w h => (goodIn_rr TB_1 [161, 163, 165, 167, 169, 172, 173, 174, 175, 176, 177, 178, 179, 180, 182, 185, 186, 187, 188, 189, 190, 191, 192, 193, 195, 196, 198, 200, 202, 205, 206, 207, 208, 209, 211, 213, 215, 219, 220, 221, 222, 223, 224, 225, 226, 227, 228, 229, 231, 232, 233, 234, 235, 236, 237, 239, 240, 241, 242, 244] (by decide +kernel)) w h
set_option maxRecDepth 100000 in
theorem TB_lw2 : ∀ w ∈ TB_2, w ∈ lw_tbl := fun w h => (goodIn_rr TB_2 [245, 246, 247, 248, 249, 250, 251, 252, 253, 254, 255, 257, 258, 259, 260, 261, 262, 263, 264, 265, 266, 267, 269, 270, 271, 272, 273, 274, 275, 276, 277, 278, 280, 281, 282, 283, 284, 285, 287, 288, 289, 290, 291, 292, 293, 294, 295, 296, 297, 300, 301, 302, 303, 305, 306, 307, 308, 309, 310, 311] (by decide +kernel)) w h
set_option maxRecDepth 100000 in
theorem TB_lw3 : ∀ w ∈ TB_3, w ∈ lw_tbl := fun w h => (goodIn_rr TB_3 [312, 313, 314, 315, 316, 317, 318, 319, 321, 322, 323, 324, 325, 326, 327, 329, 330, 331, 333, 334, 335, 336, 337, 339, 340, 341, 342, 343, 344, 346, 347, 350, 352, 353, 354, 355, 356, 357, 358, 360, 362, 363, 364, 365, 367, 368, 369, 370, 371, 372, 373, 375, 376, 377, 378, 379, 380, 381, 383, 384] (by decide +kernel)) w h
set_option maxRecDepth 100000 in
theorem TB_lw4 : ∀ w ∈ TB_4, w ∈ lw_tbl := fun w h => (goodIn_rr TB_4 [385, 387, 388, 389, 391, 392, 393, 395, 396, 397, 398, 399, 400, 401, 403, 404, 405, 407, 408, 409, 410, 411, 412, 413, 414, 415, 416, 417, 418, 419, 420, 421, 422, 423, 424, 425, 426, 427, 428, 430, 431, 432, 433, 434, 435, 436, 437, 438, 439, 441, 442, 443, 444, 445, 446, 447, 448, 449, 450, 451] (by decide +kernel)) w h
set_option maxRecDepth 100000 in
theorem TB_lw5 : ∀ w ∈ TB_5, w ∈ lw_tbl := fun w h => (goodIn_rr TB_5 [452, 453, 454, 455, 457, 458, 459, 460, 461, 462, 463, 464, 465, 466, 467, 468, 470, 471, 472, 473, 475, 476, 477, 478, 479, 480, 481, 483, 484, 486, 487, 488, 489, 490, 491, 492, 493, 495, 496, 497, 498, 500, 501, 502, 503, 505, 506, 507, 509, 510, 511, 513, 514, 515, 517, 518, 519, 520, 521, 522] (by decide +kernel)) w h
set_option maxRecDepth 100000 in
theorem TB_lw6 : ∀ w ∈ TB_6, w ∈ lw_tbl := fun w h => (goodIn_rr TB_6 [523, 524, 525, 526, 527, 528, 529, 530, 531, 533, 534, 535, 537, 538, 539, 540, 542, 543, 544, 545, 546, 547, 548, 549, 551, 553, 554, 556, 558, 559, 560, 561, 563, 564, 565, 566, 567, 568, 570, 571, 574, 576, 577, 578, 580, 581, 582, 583, 584, 585, 586, 588, 589, 590, 591, 592, 593, 594, 595, 596] (by decide +kernel)) w h
set_option maxRecDepth 100000 in
theorem TB_lw7 : ∀ w ∈ TB_7, w ∈ lw_tbl := fun w h => (goodIn_rr TB_7 [597, 598, 599, 601, 602, 603, 604, 606, 607, 608, 609, 610, 611, 612, 613, 615, 617, 618, 619, 620, 621, 622, 623, 624, 625, 626, 627, 628, 629, 630, 631, 632, 633, 634, 635, 636, 637, 639, 641, 643, 645, 647, 649, 651, 653, 655, 657, 659, 661, 663, 665, 667, 669, 672, 674, 675, 676, 678, 679, 680] (by decide +kernel)) w h
set_option maxRecDepth 100000 in
theorem TB_lw8 : ∀ w ∈ TB_8, w ∈ lw_tbl := fun w h => (goodIn_rr TB_8 [682, 683, 684, 685, 687, 688, 689, 690, 691, 692, 693, 694, 695, 696, 697, 698, 699, 700, 701, 703, 704, 706, 707, 708, 709, 710, 711, 713, 714, 715, 717, 718, 719, 721, 722, 723, 724, 726, 727, 728, 730, 731, 732, 733, 734, 735, 737, 738, 739, 741, 742, 743, 745, 746, 747, 749, 750, 751, 753, 754] (by decide +kernel)) w h
set_option maxRecDepth 100000 in
theorem TB_lw9 : ∀ w ∈ TB_9, w ∈ lw_tbl := fun w h => (goodIn_rr TB_9 [755, 757, 758, 759, 761, 762, 763, 765, 766, 767, 769, 770, 771, 773, 774, 776, 777, 778, 780, 781, 782, 783, 785, 786, 788, 789, 790, 792, 793, 794, 796, 797, 798, 799, 801, 802, 803, 805, 806, 807, 809, 810, 811, 813, 814, 815, 817, 818, 819, 821, 822, 823, 825, 826, 827, 829, 830, 831, 833, 834] (by decide +kernel)) w h
set_option maxRecDepth 100000 in
theorem TB_lw10 : ∀ w ∈ TB_10, w ∈ lw_tbl := fun w h => (goodIn_rr TB_10 [836, 837, 838, 839, 841, 842, 843, 845, 846, 847, 849, 850, 852, 853, 854, 855, 857, 858, 859, 861, 862, 863, 865, 866, 867, 869, 870, 871, 873, 874, 875, 877, 878, 879, 881, 882, 883, 885, 886, 887, 889, 890, 892, 893, 894, 896, 897, 898, 900, 901, 902, 903, 905, 906, 907, 909, 910, 911, 913, 914] (by decide +kernel)) w h
set_option maxRecDepth 100000 in
theorem TB_lw11 : ∀ w ∈ TB_11, w ∈ lw_tbl := fun w h => (goodIn_rr TB_11 [915, 917, 918, 919, 921, 922, 923, 925, 926, 0, 17, 1, 14, 16, 15, 13, 2, 9, 4, 8, 12, 7, 5, 6, 10, 11, 3, 23, 21, 24, 18, 20, 22, 19, 26, 28, 44, 29, 38, 51, 31, 61, 42, 34, 65, 46, 45, 55, 49, 66, 59, 30, 58, 64, 25, 60, 53, 39, 41, 54] (by decide +kernel)) w h
set_option maxRecDepth 100000 in
theorem TB_lw12 : ∀ w ∈ TB_12, w ∈ lw_tbl := fun w h => (goodIn_rr TB_12 [62, 63, 52, 33, 47, 40, 56, 43, 50, 57, 27, 48, 35, 32, 36, 37] (by decide +kernel)) w h
theorem TB_lw : ∀ w ∈ TB, w ∈ lw_tbl := by
  intro w h
  unfold TB at h
  rcases List.mem_append.mp h with h | h
  · exact TB_lw0 w h
  rcases List.mem_append.mp h with h | h
  · exact TB_lw1 w h
  rcases List.mem_append.mp h with h | h
  · exact TB_lw2 w h
  rcases List.mem_append.mp h with h | h
  · exact TB_lw3 w h
  rcases List.mem_append.mp h with h | h
  · exact TB_lw4 w h
  rcases List.mem_append.mp h with h | h
  · exact TB_lw5 w h
  rcases List.mem_append.mp h with h | h
  · exact TB_lw6 w h
  rcases List.mem_append.mp h with h | h
  · exact TB_lw7 w h
  rcases List.mem_append.mp h with h | h
  · exact TB_lw8 w h
  rcases List.mem_append.mp h with h | h
  · exact TB_lw9 w h
  rcases List.mem_append.mp h with h | h
  · exact TB_lw10 w h
  rcases List.mem_append.mp h with h | h
  · exact TB_lw11 w h
  exact TB_lw12 w h
