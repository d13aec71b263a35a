set_option maxRecDepth 20000 in
theorem wl_wsL_law_r1 : ∀ w ∈ wsL_law_r1, w ∈ lw_tbl := by
  intro w h
  have e : wsL_law_r1 = ([54, 55, 35, 632, 633, 42, 56, 57, 58, 59, 60, 61, 62, 63, 36, 169, 77, 78, 37, 170, 171, 100, 101, 39] : List Nat).filterMap (fun i => lw_tbl[i]?) := by decide +kernel
  rw [e] at h
  obtain ⟨i, -, hi⟩ := List.mem_filterMap.mp h
  exact List.mem_of_getElem? hi
set_option maxRecDepth 20000 in
theorem wl_wsL_law_r2 : ∀ w ∈ wsL_law_r2, w ∈ lw_tbl := by
  intro w h
  have e : wsL_law_r2 = ([172, 114, 115, 40, 173, 137, 138, 41, 174, 65, 66, 67, 76, 68, 69, 79, 80, 81, 82, 88, 89, 91, 85, 87] : List Nat).filterMap (fun i => lw_tbl[i]?) := by decide +kernel
  rw [e] at h
  obtain ⟨i, -, hi⟩ := List.mem_filterMap.mp h
  exact List.mem_of_getElem? hi
set_option maxRecDepth 20000 in
theorem wl_wsL_law_r3 : ∀ w ∈ wsL_law_r3, w ∈ lw_tbl := by
  intro w h
  have e : wsL_law_r3 = ([86, 38, 103, 104, 105, 106, 107, 117, 118, 119, 120, 121, 122, 123, 124, 140, 141, 142, 145, 146, 147, 143, 168, 148] : List Nat).filterMap (fun i => lw_tbl[i]?) := by decide +kernel
  rw [e] at h
  obtain ⟨i, -, hi⟩ := List.mem_filterMap.mp h
  exact List.mem_of_getElem? hi
set_option maxRecDepth 20000 in
theorem wl_wsL_law_r4 : ∀ w ∈ wsL_law_r4, w ∈ lw_tbl := by
  intro w h
  have e : wsL_law_r4 = ([149, 150, 151, 634, 635, 636, 637, 638, 639, 640, 641, 643, 646, 647, 696, 648, 650, 651, 654, 655, 188, 189, 190, 191] : List Nat).filterMap (fun i => lw_tbl[i]?) := by decide +kernel
  rw [e] at h
  obtain ⟨i, -, hi⟩ := List.mem_filterMap.mp h
  exact List.mem_of_getElem? hi
set_option maxRecDepth 20000 in
theorem wl_wsL_law_r5 : ∀ w ∈ wsL_law_r5, w ∈ lw_tbl := by
  intro w h
  have e : wsL_law_r5 = ([192, 193, 194, 195, 697, 698, 699, 700, 644, 701, 702, 703, 196, 197, 198, 199, 200, 201, 202, 203, 704, 705, 706, 707] : List Nat).filterMap (fun i => lw_tbl[i]?) := by decide +kernel
  rw [e] at h
  obtain ⟨i, -, hi⟩ := List.mem_filterMap.mp h
  exact List.mem_of_getElem? hi
set_option maxRecDepth 20000 in
theorem wl_wsL_law_r6 : ∀ w ∈ wsL_law_r6, w ∈ lw_tbl := by
  intro w h
  have e : wsL_law_r6 = ([204, 205, 206, 207, 208, 209, 210, 211, 212, 213, 214, 215, 216, 218, 0, 219, 220, 222, 1, 223, 224, 226, 2, 227] : List Nat).filterMap (fun i => lw_tbl[i]?) := by decide +kernel
  rw [e] at h
  obtain ⟨i, -, hi⟩ := List.mem_filterMap.mp h
  exact List.mem_of_getElem? hi
set_option maxRecDepth 20000 in
theorem wl_wsL_law_r7 : ∀ w ∈ wsL_law_r7, w ∈ lw_tbl := by
  intro w h
  have e : wsL_law_r7 = ([228, 229, 230, 231, 232, 233, 234, 235, 237, 238, 239, 43, 240, 241, 242, 243, 244, 903, 245, 246, 247, 248, 249, 902] : List Nat).filterMap (fun i => lw_tbl[i]?) := by decide +kernel
  rw [e] at h
  obtain ⟨i, -, hi⟩ := List.mem_filterMap.mp h
  exact List.mem_of_getElem? hi
set_option maxRecDepth 20000 in
theorem wl_wsL_law_r8 : ∀ w ∈ wsL_law_r8, w ∈ lw_tbl := by
  intro w h
  have e : wsL_law_r8 = ([251, 252, 253, 254, 255, 256, 257, 258, 259, 260, 44, 261, 265, 266, 45, 267, 268, 269, 270, 262, 263, 264, 271, 272] : List Nat).filterMap (fun i => lw_tbl[i]?) := by decide +kernel
  rw [e] at h
  obtain ⟨i, -, hi⟩ := List.mem_filterMap.mp h
  exact List.mem_of_getElem? hi
set_option maxRecDepth 20000 in
theorem wl_wsL_law_r9 : ∀ w ∈ wsL_law_r9, w ∈ lw_tbl := by
  intro w h
  have e : wsL_law_r9 = ([273, 274, 275, 46, 276, 277, 278, 279, 280, 281, 282, 283, 284, 285, 286, 287, 288, 289, 290, 291, 292, 294, 295, 47] : List Nat).filterMap (fun i => lw_tbl[i]?) := by decide +kernel
  rw [e] at h
  obtain ⟨i, -, hi⟩ := List.mem_filterMap.mp h
  exact List.mem_of_getElem? hi
set_option maxRecDepth 20000 in
theorem wl_wsL_law_r10 : ∀ w ∈ wsL_law_r10, w ∈ lw_tbl := by
  intro w h
  have e : wsL_law_r10 = ([296, 297, 298, 299, 300, 301, 302, 303, 305, 307, 309, 310, 311, 312, 313, 48, 314, 315, 316, 317, 318, 319, 320, 321] : List Nat).filterMap (fun i => lw_tbl[i]?) := by decide +kernel
  rw [e] at h
  obtain ⟨i, -, hi⟩ := List.mem_filterMap.mp h
  exact List.mem_of_getElem? hi
set_option maxRecDepth 20000 in
theorem wl_wsL_law_r11 : ∀ w ∈ wsL_law_r11, w ∈ lw_tbl := by
  intro w h
  have e : wsL_law_r11 = ([322, 323, 324, 325, 326, 327, 328, 329, 330, 331, 332, 333, 334, 335, 336, 337, 338, 339, 708, 709, 710, 711, 712, 714] : List Nat).filterMap (fun i => lw_tbl[i]?) := by decide +kernel
  rw [e] at h
  obtain ⟨i, -, hi⟩ := List.mem_filterMap.mp h
  exact List.mem_of_getElem? hi
set_option maxRecDepth 20000 in
theorem wl_wsL_law_r12 : ∀ w ∈ wsL_law_r12, w ∈ lw_tbl := by
  intro w h
  have e : wsL_law_r12 = ([20, 715, 645, 716, 718, 21, 719, 720, 721, 722, 723, 724, 725, 726, 727, 728, 729, 730, 731, 732, 733, 734, 735, 736] : List Nat).filterMap (fun i => lw_tbl[i]?) := by decide +kernel
  rw [e] at h
  obtain ⟨i, -, hi⟩ := List.mem_filterMap.mp h
  exact List.mem_of_getElem? hi
set_option maxRecDepth 20000 in
theorem wl_wsL_law_r13 : ∀ w ∈ wsL_law_r13, w ∈ lw_tbl := by
  intro w h
  have e : wsL_law_r13 = ([737, 341, 342, 343, 344, 345, 346, 347, 348, 349, 350, 351, 352, 353, 738, 739, 740, 741, 642, 742, 743, 744, 354, 355] : List Nat).filterMap (fun i => lw_tbl[i]?) := by decide +kernel
  rw [e] at h
  obtain ⟨i, -, hi⟩ := List.mem_filterMap.mp h
  exact List.mem_of_getElem? hi
set_option maxRecDepth 20000 in
theorem wl_wsL_law_r14 : ∀ w ∈ wsL_law_r14, w ∈ lw_tbl := by
  intro w h
  have e : wsL_law_r14 = ([356, 357, 358, 359, 361, 3, 362, 363, 364, 365, 367, 4, 368, 369, 370, 371, 372, 373, 375, 5, 376, 377, 749, 750] : List Nat).filterMap (fun i => lw_tbl[i]?) := by decide +kernel
  rw [e] at h
  obtain ⟨i, -, hi⟩ := List.mem_filterMap.mp h
  exact List.mem_of_getElem? hi
set_option maxRecDepth 20000 in
theorem wl_wsL_law_r15 : ∀ w ∈ wsL_law_r15, w ∈ lw_tbl := by
  intro w h
  have e : wsL_law_r15 = ([751, 752, 753, 755, 22, 756, 757, 759, 23, 760, 378, 379, 380, 381, 382, 383, 384, 385, 386, 387, 388, 389, 761, 762] : List Nat).filterMap (fun i => lw_tbl[i]?) := by decide +kernel
  rw [e] at h
  obtain ⟨i, -, hi⟩ := List.mem_filterMap.mp h
  exact List.mem_of_getElem? hi
set_option maxRecDepth 20000 in
theorem wl_wsL_law_r16 : ∀ w ∈ wsL_law_r16, w ∈ lw_tbl := by
  intro w h
  have e : wsL_law_r16 = ([763, 764, 765, 767, 24, 768, 769, 770, 771, 772, 773, 774, 390, 391, 392, 393, 394, 396, 6, 397, 398, 399, 400, 401] : List Nat).filterMap (fun i => lw_tbl[i]?) := by decide +kernel
  rw [e] at h
  obtain ⟨i, -, hi⟩ := List.mem_filterMap.mp h
  exact List.mem_of_getElem? hi
set_option maxRecDepth 20000 in
theorem wl_wsL_law_r17 : ∀ w ∈ wsL_law_r17, w ∈ lw_tbl := by
  intro w h
  have e : wsL_law_r17 = ([402, 403, 404, 405, 406, 407, 408, 409, 775, 776, 777, 778, 410, 411, 412, 413, 414, 415, 416, 417, 418, 419, 420, 421] : List Nat).filterMap (fun i => lw_tbl[i]?) := by decide +kernel
  rw [e] at h
  obtain ⟨i, -, hi⟩ := List.mem_filterMap.mp h
  exact List.mem_of_getElem? hi
set_option maxRecDepth 20000 in
theorem wl_wsL_law_r18 : ∀ w ∈ wsL_law_r18, w ∈ lw_tbl := by
  intro w h
  have e : wsL_law_r18 = ([422, 423, 745, 746, 747, 748, 424, 425, 426, 427, 779, 780, 781, 782, 428, 429, 430, 431, 783, 784, 785, 786, 432, 433] : List Nat).filterMap (fun i => lw_tbl[i]?) := by decide +kernel
  rw [e] at h
  obtain ⟨i, -, hi⟩ := List.mem_filterMap.mp h
  exact List.mem_of_getElem? hi
set_option maxRecDepth 20000 in
theorem wl_wsL_law_r19 : ∀ w ∈ wsL_law_r19, w ∈ lw_tbl := by
  intro w h
  have e : wsL_law_r19 = ([434, 435, 436, 437, 438, 439, 440, 441, 442, 443, 444, 445, 446, 447, 448, 449, 450, 451, 452, 787, 788, 789, 790, 791] : List Nat).filterMap (fun i => lw_tbl[i]?) := by decide +kernel
  rw [e] at h
  obtain ⟨i, -, hi⟩ := List.mem_filterMap.mp h
  exact List.mem_of_getElem? hi
set_option maxRecDepth 20000 in
theorem wl_wsL_law_r20 : ∀ w ∈ wsL_law_r20, w ∈ lw_tbl := by
  intro w h
  have e : wsL_law_r20 = ([793, 25, 794, 795, 796, 797, 798, 799, 800, 453, 454, 455, 456, 457, 459, 7, 460, 461, 462, 463, 464, 465, 466, 467] : List Nat).filterMap (fun i => lw_tbl[i]?) := by decide +kernel
  rw [e] at h
  obtain ⟨i, -, hi⟩ := List.mem_filterMap.mp h
  exact List.mem_of_getElem? hi
set_option maxRecDepth 20000 in
theorem wl_wsL_law_r21 : ∀ w ∈ wsL_law_r21, w ∈ lw_tbl := by
  intro w h
  have e : wsL_law_r21 = ([468, 469, 470, 472, 473, 475, 476, 478, 479, 480, 482, 483, 484, 485, 486, 487, 488, 490, 8, 491, 492, 493, 49, 494] : List Nat).filterMap (fun i => lw_tbl[i]?) := by decide +kernel
  rw [e] at h
  obtain ⟨i, -, hi⟩ := List.mem_filterMap.mp h
  exact List.mem_of_getElem? hi
set_option maxRecDepth 20000 in
theorem wl_wsL_law_r22 : ∀ w ∈ wsL_law_r22, w ∈ lw_tbl := by
  intro w h
  have e : wsL_law_r22 = ([495, 497, 9, 498, 499, 500, 501, 502, 504, 10, 505, 509, 506, 507, 508, 510, 512, 11, 513, 514, 516, 12, 517, 518] : List Nat).filterMap (fun i => lw_tbl[i]?) := by decide +kernel
  rw [e] at h
  obtain ⟨i, -, hi⟩ := List.mem_filterMap.mp h
  exact List.mem_of_getElem? hi
set_option maxRecDepth 20000 in
theorem wl_wsL_law_r23 : ∀ w ∈ wsL_law_r23, w ∈ lw_tbl := by
  intro w h
  have e : wsL_law_r23 = ([520, 13, 521, 522, 524, 14, 525, 526, 527, 528, 529, 530, 531, 532, 533, 534, 535, 801, 802, 803, 804, 652, 653, 805] : List Nat).filterMap (fun i => lw_tbl[i]?) := by decide +kernel
  rw [e] at h
  obtain ⟨i, -, hi⟩ := List.mem_filterMap.mp h
  exact List.mem_of_getElem? hi
set_option maxRecDepth 20000 in
theorem wl_wsL_law_r24 : ∀ w ∈ wsL_law_r24, w ∈ lw_tbl := by
  intro w h
  have e : wsL_law_r24 = ([807, 26, 808, 809, 810, 811, 812, 813, 814, 815, 816, 817, 818, 819, 820, 821, 822, 823, 824, 825, 826, 827, 829, 27] : List Nat).filterMap (fun i => lw_tbl[i]?) := by decide +kernel
  rw [e] at h
  obtain ⟨i, -, hi⟩ := List.mem_filterMap.mp h
  exact List.mem_of_getElem? hi
set_option maxRecDepth 20000 in
theorem wl_wsL_law_r25 : ∀ w ∈ wsL_law_r25, w ∈ lw_tbl := by
  intro w h
  have e : wsL_law_r25 = ([830, 649, 831, 833, 28, 834, 835, 837, 29, 838, 839, 840, 842, 30, 843, 844, 846, 31, 847, 536, 537, 538, 539, 540] : List Nat).filterMap (fun i => lw_tbl[i]?) := by decide +kernel
  rw [e] at h
  obtain ⟨i, -, hi⟩ := List.mem_filterMap.mp h
  exact List.mem_of_getElem? hi
set_option maxRecDepth 20000 in
theorem wl_wsL_law_r26 : ∀ w ∈ wsL_law_r26, w ∈ lw_tbl := by
  intro w h
  have e : wsL_law_r26 = ([541, 542, 543, 544, 545, 546, 547, 548, 549, 848, 849, 850, 851, 852, 854, 32, 855, 550, 551, 552, 553, 554, 555, 556] : List Nat).filterMap (fun i => lw_tbl[i]?) := by decide +kernel
  rw [e] at h
  obtain ⟨i, -, hi⟩ := List.mem_filterMap.mp h
  exact List.mem_of_getElem? hi
set_option maxRecDepth 20000 in
theorem wl_wsL_law_r27 : ∀ w ∈ wsL_law_r27, w ∈ lw_tbl := by
  intro w h
  have e : wsL_law_r27 = ([557, 856, 857, 858, 859, 860, 861, 51, 862, 866, 868, 867, 51, 869, 863, 864, 865, 558, 559, 560, 561, 562, 563, 564] : List Nat).filterMap (fun i => lw_tbl[i]?) := by decide +kernel
  rw [e] at h
  obtain ⟨i, -, hi⟩ := List.mem_filterMap.mp h
  exact List.mem_of_getElem? hi
set_option maxRecDepth 20000 in
theorem wl_wsL_law_r28 : ∀ w ∈ wsL_law_r28, w ∈ lw_tbl := by
  intro w h
  have e : wsL_law_r28 = ([565, 566, 567, 568, 569, 571, 15, 572, 573, 575, 16, 576, 577, 579, 581, 17, 582, 583, 584, 586, 18, 587, 870, 871] : List Nat).filterMap (fun i => lw_tbl[i]?) := by decide +kernel
  rw [e] at h
  obtain ⟨i, -, hi⟩ := List.mem_filterMap.mp h
  exact List.mem_of_getElem? hi
set_option maxRecDepth 20000 in
theorem wl_wsL_law_r29 : ∀ w ∈ wsL_law_r29, w ∈ lw_tbl := by
  intro w h
  have e : wsL_law_r29 = ([872, 873, 656, 874, 876, 33, 877, 590, 591, 592, 593, 594, 595, 596, 597, 878, 879, 880, 881, 598, 599, 600, 601, 602] : List Nat).filterMap (fun i => lw_tbl[i]?) := by decide +kernel
  rw [e] at h
  obtain ⟨i, -, hi⟩ := List.mem_filterMap.mp h
  exact List.mem_of_getElem? hi
set_option maxRecDepth 20000 in
theorem wl_wsL_law_r30 : ∀ w ∈ wsL_law_r30, w ∈ lw_tbl := by
  intro w h
  have e : wsL_law_r30 = ([603, 604, 605, 606, 52, 607, 882, 883, 884, 885, 608, 609, 610, 611, 612, 613, 615, 19, 616, 617, 618, 53, 619, 620] : List Nat).filterMap (fun i => lw_tbl[i]?) := by decide +kernel
  rw [e] at h
  obtain ⟨i, -, hi⟩ := List.mem_filterMap.mp h
  exact List.mem_of_getElem? hi
set_option maxRecDepth 20000 in
theorem wl_wsL_law_r31 : ∀ w ∈ wsL_law_r31, w ∈ lw_tbl := by
  intro w h
  have e : wsL_law_r31 = ([621, 622, 886, 887, 888, 889, 890, 891, 892, 893, 623, 624, 625, 626, 894, 895, 896, 897, 627, 628, 629, 630, 631, 898] : List Nat).filterMap (fun i => lw_tbl[i]?) := by decide +kernel
  rw [e] at h
  obtain ⟨i, -, hi⟩ := List.mem_filterMap.mp h
  exact List.mem_of_getElem? hi
set_option maxRecDepth 20000 in
theorem wl_wsL_law_r32 : ∀ w ∈ wsL_law_r32, w ∈ lw_tbl := by
  intro w h
  have e : wsL_law_r32 = ([899, 900, 901] : List Nat).filterMap (fun i => lw_tbl[i]?) := by decide +kernel
  rw [e] at h
  obtain ⟨i, -, hi⟩ := List.mem_filterMap.mp h
  exact List.mem_of_getElem? hi
set_option maxRecDepth 20000 in
theorem wl_wsX50 : ∀ w ∈ wsX50, w ∈ lw_tbl := by
  intro w h
  have e : wsX50 = ([175, 177, 179, 181, 183, 185] : List Nat).filterMap (fun i => lw_tbl[i]?) := by decide +kernel
  rw [e] at h
  obtain ⟨i, -, hi⟩ := List.mem_filterMap.mp h
  exact List.mem_of_getElem? hi
set_option maxRecDepth 20000 in
theorem wl_wsX60 : ∀ w ∈ wsX60, w ∈ lw_tbl := by
  intro w h
  have e : wsX60 = ([657, 659, 661, 663, 665, 667, 669, 671, 673, 675, 677, 679, 681, 683, 685, 687, 689, 691, 693] : List Nat).filterMap (fun i => lw_tbl[i]?) := by decide +kernel
  rw [e] at h
  obtain ⟨i, -, hi⟩ := List.mem_filterMap.mp h
  exact List.mem_of_getElem? hi
set_option maxRecDepth 20000 in
theorem wl_wsX30 : ∀ w ∈ wsX30, w ∈ lw_tbl := by
  intro w h
  have e : wsX30 = ([71, 73] : List Nat).filterMap (fun i => lw_tbl[i]?) := by decide +kernel
  rw [e] at h
  obtain ⟨i, -, hi⟩ := List.mem_filterMap.mp h
  exact List.mem_of_getElem? hi
set_option maxRecDepth 20000 in
theorem wl_wsX20 : ∀ w ∈ wsX20, w ∈ lw_tbl := by
  intro w h
  have e : wsX20 = ([93, 95, 97] : List Nat).filterMap (fun i => lw_tbl[i]?) := by decide +kernel
  rw [e] at h
  obtain ⟨i, -, hi⟩ := List.mem_filterMap.mp h
  exact List.mem_of_getElem? hi
set_option maxRecDepth 20000 in
theorem wl_wsX10 : ∀ w ∈ wsX10, w ∈ lw_tbl := by
  intro w h
  have e : wsX10 = ([109, 111] : List Nat).filterMap (fun i => lw_tbl[i]?) := by decide +kernel
  rw [e] at h
  obtain ⟨i, -, hi⟩ := List.mem_filterMap.mp h
  exact List.mem_of_getElem? hi
set_option maxRecDepth 20000 in
theorem wl_wsX40 : ∀ w ∈ wsX40, w ∈ lw_tbl := by
  intro w h
  have e : wsX40 = ([126, 128, 130, 132, 134] : List Nat).filterMap (fun i => lw_tbl[i]?) := by decide +kernel
  rw [e] at h
  obtain ⟨i, -, hi⟩ := List.mem_filterMap.mp h
  exact List.mem_of_getElem? hi
set_option maxRecDepth 20000 in
theorem wl_wsX00 : ∀ w ∈ wsX00, w ∈ lw_tbl := by
  intro w h
  have e : wsX00 = ([153, 155, 157, 159, 161, 163, 165] : List Nat).filterMap (fun i => lw_tbl[i]?) := by decide +kernel
  rw [e] at h
  obtain ⟨i, -, hi⟩ := List.mem_filterMap.mp h
  exact List.mem_of_getElem? hi
theorem wl_law : ∀ w ∈ wsL_law, w ∈ lw_tbl := (List.forall_mem_append.mpr ⟨(List.forall_mem_append.mpr ⟨(List.forall_mem_append.mpr ⟨(List.forall_mem_append.mpr ⟨(List.forall_mem_append.mpr ⟨(List.forall_mem_append.mpr ⟨(List.forall_mem_append.mpr ⟨(List.forall_mem_append.mpr ⟨(List.forall_mem_append.mpr ⟨wl_wsL_law_r1, (List.forall_mem_append.mpr ⟨wl_wsL_law_r2, (List.forall_mem_append.mpr ⟨wl_wsL_law_r3, (List.forall_mem_append.mpr ⟨wl_wsL_law_r4, (List.forall_mem_append.mpr ⟨wl_wsL_law_r5, (List.forall_mem_append.mpr ⟨wl_wsL_law_r6, (List.forall_mem_append.mpr ⟨wl_wsL_law_r7, (List.forall_mem_append.mpr ⟨wl_wsL_law_r8, (List.forall_mem_append.mpr ⟨wl_wsL_law_r9, (List.forall_mem_append.mpr ⟨wl_wsL_law_r10, (List.forall_mem_append.mpr ⟨wl_wsL_law_r11, (List.forall_mem_append.mpr ⟨wl_wsL_law_r12, (List.forall_mem_append.mpr ⟨wl_wsL_law_r13, (List.forall_mem_append.mpr ⟨wl_wsL_law_r14, (List.forall_mem_append.mpr ⟨wl_wsL_law_r15, (List.forall_mem_append.mpr ⟨wl_wsL_law_r16, (List.forall_mem_append.mpr ⟨wl_wsL_law_r17, (List.forall_mem_append.mpr ⟨wl_wsL_law_r18, (List.forall_mem_append.mpr ⟨wl_wsL_law_r19, (List.forall_mem_append.mpr ⟨wl_wsL_law_r20, (List.forall_mem_append.mpr ⟨wl_wsL_law_r21, (List.forall_mem_append.mpr ⟨wl_wsL_law_r22, (List.forall_mem_append.mpr ⟨wl_wsL_law_r23, (List.forall_mem_append.mpr ⟨wl_wsL_law_r24, (List.forall_mem_append.mpr ⟨wl_wsL_law_r25, (List.forall_mem_append.mpr ⟨wl_wsL_law_r26, (List.forall_mem_append.mpr ⟨wl_wsL_law_r27, (List.forall_mem_append.mpr ⟨wl_wsL_law_r28, (List.forall_mem_append.mpr ⟨wl_wsL_law_r29, (List.forall_mem_append.mpr ⟨wl_wsL_law_r30, (List.forall_mem_append.mpr ⟨wl_wsL_law_r31, wl_wsL_law_r32⟩)⟩)⟩)⟩)⟩)⟩)⟩)⟩)⟩)⟩)⟩)⟩)⟩)⟩)⟩)⟩)⟩)⟩)⟩)⟩)⟩)⟩)⟩)⟩)⟩)⟩)⟩)⟩)⟩)⟩)⟩), wl_wsX50⟩), wl_wsX60⟩), wl_wsX30⟩), wl_wsX20⟩), wl_wsX10⟩), wl_wsX40⟩), wl_wsX00⟩), fun _ h => absurd h List.not_mem_nil⟩)
theorem sn_f0 : Cond.fieldLinkNest "MirrorShares" 195 "MirrorShares$Told" "length" "I" "MirrorShares" ∈ lw_tbl := List.mem_of_getElem? (i := 70) (by decide +kernel)
theorem sn_f1 : Cond.fieldLinkNest "MirrorShares$Room" 22 "MirrorShares" "FIRST_KINDS" "[I" "MirrorShares" ∈ lw_tbl := List.mem_of_getElem? (i := 83) (by decide +kernel)
theorem sn_f2 : Cond.fieldLinkNest "MirrorShares" 99 "MirrorShares$Room" "columns" "I" "MirrorShares" ∈ lw_tbl := List.mem_of_getElem? (i := 90) (by decide +kernel)
theorem sn_f3 : Cond.fieldLinkNest "MirrorShares" 59 "MirrorShares$Room" "rows" "I" "MirrorShares" ∈ lw_tbl := List.mem_of_getElem? (i := 92) (by decide +kernel)
theorem sn_f4 : Cond.fieldLinkNest "MirrorShares" 108 "MirrorShares$Past" "size" "I" "MirrorShares" ∈ lw_tbl := List.mem_of_getElem? (i := 108) (by decide +kernel)
theorem sn_f5 : Cond.fieldLinkNest "MirrorShares" 171 "MirrorShares$Walk" "litCells" "I" "MirrorShares" ∈ lw_tbl := List.mem_of_getElem? (i := 125) (by decide +kernel)
theorem sn_f6 : Cond.fieldLinkNest "MirrorShares" 150 "MirrorShares$Beam" "whole" "J" "MirrorShares" ∈ lw_tbl := List.mem_of_getElem? (i := 152) (by decide +kernel)
theorem sn_m0 : Cond.methodLinkNest "MirrorShares" 11 yX3_init "MirrorShares" ∈ lw_tbl := List.mem_of_getElem? (i := 64) (by decide +kernel)
theorem sn_m1 : Cond.methodLinkNest "MirrorShares" 28 yX1_init "MirrorShares" ∈ lw_tbl := List.mem_of_getElem? (i := 102) (by decide +kernel)
theorem sn_m2 : Cond.methodLinkNest "MirrorShares" 35 yX4_init "MirrorShares" ∈ lw_tbl := List.mem_of_getElem? (i := 116) (by decide +kernel)
theorem sn_m3 : Cond.methodLinkNest "MirrorShares" 42 yX0_init "MirrorShares" ∈ lw_tbl := List.mem_of_getElem? (i := 139) (by decide +kernel)
theorem sn_m4 : Cond.methodLinkNest "MirrorShares$Beam" 95 yX5_isHalf "MirrorShares" ∈ lw_tbl := List.mem_of_getElem? (i := 471) (by decide +kernel)
theorem sn_m5 : Cond.methodLinkNest "MirrorShares$Beam" 88 yX5_turnedBy "MirrorShares" ∈ lw_tbl := List.mem_of_getElem? (i := 474) (by decide +kernel)
theorem sn_m6 : Cond.methodLinkNest "MirrorShares$Beam" 99 yX5_letsOn "MirrorShares" ∈ lw_tbl := List.mem_of_getElem? (i := 477) (by decide +kernel)
theorem sn_m7 : Cond.methodLinkNest "MirrorShares$Beam" 102 yX5_turnsBeam "MirrorShares" ∈ lw_tbl := List.mem_of_getElem? (i := 481) (by decide +kernel)
theorem sn_m8 : Cond.methodLinkNest "MirrorShares$Walk" 54 yX5_letsOn "MirrorShares" ∈ lw_tbl := List.mem_of_getElem? (i := 578) (by decide +kernel)
theorem sn_m9 : Cond.methodLinkNest "MirrorShares$Walk" 62 yX5_turnsBeam "MirrorShares" ∈ lw_tbl := List.mem_of_getElem? (i := 588) (by decide +kernel)
theorem sn_m10 : Cond.methodLinkNest "MirrorShares$Walk" 65 yX5_turnedBy "MirrorShares" ∈ lw_tbl := List.mem_of_getElem? (i := 589) (by decide +kernel)
theorem st_nw {av : Array Value} {s : State} (hts : ∀ w ∈ lw_tbl, w.before av s = true) : nw_ok s := ⟨(List.forall_mem_cons.mpr ⟨va_Nw.of rfl (hts _ sn_f0), (List.forall_mem_cons.mpr ⟨va_Nw.of rfl (hts _ sn_f1), (List.forall_mem_cons.mpr ⟨va_Nw.of rfl (hts _ sn_f2), (List.forall_mem_cons.mpr ⟨va_Nw.of rfl (hts _ sn_f3), (List.forall_mem_cons.mpr ⟨va_Nw.of rfl (hts _ sn_f4), (List.forall_mem_cons.mpr ⟨va_Nw.of rfl (hts _ sn_f5), (List.forall_mem_cons.mpr ⟨va_Nw.of rfl (hts _ sn_f6), (fun _ h => absurd h List.not_mem_nil)⟩)⟩)⟩)⟩)⟩)⟩)⟩), (List.forall_mem_cons.mpr ⟨va_Nw.of rfl (hts _ sn_m0), (List.forall_mem_cons.mpr ⟨va_Nw.of rfl (hts _ sn_m1), (List.forall_mem_cons.mpr ⟨va_Nw.of rfl (hts _ sn_m2), (List.forall_mem_cons.mpr ⟨va_Nw.of rfl (hts _ sn_m3), (List.forall_mem_cons.mpr ⟨va_Nw.of rfl (hts _ sn_m4), (List.forall_mem_cons.mpr ⟨va_Nw.of rfl (hts _ sn_m5), (List.forall_mem_cons.mpr ⟨va_Nw.of rfl (hts _ sn_m6), (List.forall_mem_cons.mpr ⟨va_Nw.of rfl (hts _ sn_m7), (List.forall_mem_cons.mpr ⟨va_Nw.of rfl (hts _ sn_m8), (List.forall_mem_cons.mpr ⟨va_Nw.of rfl (hts _ sn_m9), (List.forall_mem_cons.mpr ⟨va_Nw.of rfl (hts _ sn_m10), (fun _ h => absurd h List.not_mem_nil)⟩)⟩)⟩)⟩)⟩)⟩)⟩)⟩)⟩)⟩)⟩)⟩
theorem st_D {av : Array Value} {s : State} (hts : ∀ w ∈ lw_tbl, w.before av s = true) : ∃ D : va_G, ∀ (k : Nat) (q : vw_C), vwCl[k]? = some q → u_Kn s q.1 q.2.1 q.2.2 (D.1 k) (D.2 k) := by
  obtain ⟨c0, i0, h0⟩ := u_known (C := RX0) (T := TX0) (N := 7) (n := 7) hts wl_wsX00 (hts (.instantiable RX0 7) (List.mem_of_getElem? (i := 138) (by decide +kernel)))
  obtain ⟨c1, i1, h1⟩ := u_known (C := RX1) (T := TX1) (N := 2) (n := 2) hts wl_wsX10 (hts (.instantiable RX1 2) (List.mem_of_getElem? (i := 101) (by decide +kernel)))
  obtain ⟨c2, i2, h2⟩ := u_known (C := RX2) (T := TX2) (N := 3) (n := 3) hts wl_wsX20 (hts (.instantiable RX2 3) (List.mem_of_getElem? (i := 78) (by decide +kernel)))
  obtain ⟨c3, i3, h3⟩ := u_known (C := RX3) (T := TX3) (N := 2) (n := 2) hts wl_wsX30 (hts (.instantiable RX3 2) (List.mem_of_getElem? (i := 63) (by decide +kernel)))
  obtain ⟨c4, i4, h4⟩ := u_known (C := RX4) (T := TX4) (N := 5) (n := 5) hts wl_wsX40 (hts (.instantiable RX4 5) (List.mem_of_getElem? (i := 115) (by decide +kernel)))
  obtain ⟨c5, i5, h5⟩ := u_known (C := RX5) (T := TX5) (N := 6) (n := 6) hts wl_wsX50 (hts (.instantiable RX5 6) (List.mem_of_getElem? (i := 55) (by decide +kernel)))
  obtain ⟨c6, i6, h6⟩ := u_known (C := RX6) (T := TX6) (N := 19) (n := 19) hts wl_wsX60 (hts (.instantiable RX6 19) (List.mem_of_getElem? (i := 633) (by decide +kernel)))
  refine ⟨(fun k => [c0, c1, c2, c3, c4, c5, c6].getD k c0, fun k => [i0, i1, i2, i3, i4, i5, i6].getD k i0), ?_⟩
  intro k q hq
  match k, hq with
  | 0, hq => cases hq; exact h0
  | 1, hq => cases hq; exact h1
  | 2, hq => cases hq; exact h2
  | 3, hq => cases hq; exact h3
  | 4, hq => cases hq; exact h4
  | 5, hq => cases hq; exact h5
  | 6, hq => cases hq; exact h6
  | k + 7, hq => simp [vwCl] at hq
theorem st_arr {av : Array Value} {s : State} {ty : FieldType} (hp : ∀ C, ty ≠ .object C) (h : (Cond.arrayClass ty).before av s = true) : ∃ c : ClassId, ArrOfT s c ty ∧ va_RA s c ty := by
  obtain ⟨cA, kA, comp, h1, h2, h3⟩ := Cond.arrayClass_spec h
  refine ⟨cA, fun n z => ⟨fun k h => (by cases h), kA, h2, comp, h3⟩, ?_⟩
  cases ty with
  | object C => exact absurd rfl (hp C)
  | _ => exact h1
theorem st_arrQ {av : Array Value} {s : State} (h : (Cond.arrayOver (.array .long)).before av s = true) : ∃ c : ClassId, ArrOfT s c (.array .long) ∧ va_RA s c (.array .long) := by
  obtain ⟨comp, cA, kA, h0, h1, h2, h3, h4⟩ := Jvm.Stand.arrayOver_specB h
  exact ⟨cA, fun n z => ⟨fun k h => (by cases h), kA, h2, comp, h3⟩, h4⟩
theorem st_G {av : Array Value} {s : State} (hts : ∀ w ∈ lw_tbl, w.before av s = true) : ∃ (D : va_G) (cI cJ cZ cQ : ClassId), kG D (ty4 cI cJ cZ cQ) s ∧ va_AOA .long s := by
  obtain ⟨D, hD⟩ := st_D hts
  obtain ⟨cI, hI⟩ := st_arr (ty := .int) (fun _ h => by cases h) (hts _ (List.mem_of_getElem? (i := 76) (by decide +kernel)))
  obtain ⟨cJ, hJ⟩ := st_arr (ty := .long) (fun _ h => by cases h) (hts _ (List.mem_of_getElem? (i := 168) (by decide +kernel)))
  obtain ⟨cZ, hZ⟩ := st_arr (ty := .boolean) (fun _ h => by cases h) (hts _ (List.mem_of_getElem? (i := 696) (by decide +kernel)))
  have ho : (Cond.arrayOver (.array .long)).before av s = true := hts _ (List.mem_of_getElem? (i := 144) (by decide +kernel))
  obtain ⟨cQ, hQ⟩ := st_arrQ ho
  refine ⟨D, cI, cJ, cZ, cQ, ⟨⟨hD, ?_⟩, st_nw hts⟩, Jvm.Stand.arrayOver_alikeB (Vm.Alike.refl s.vm) ho⟩
  intro k q hq
  match k, hq with
  | 0, hq => cases hq; exact hI
  | 1, hq => cases hq; exact hJ
  | 2, hq => cases hq; exact hZ
  | 3, hq => cases hq; exact hQ
  | k + 4, hq => simp at hq
theorem on1 {P : Nat → Prop} (h : P 0) (i : Nat) (hi : i < 1) : P i := by
  have e : i = 0 := by omega
  subst e
  exact h
set_option maxRecDepth 20000 in
theorem st_E {av : Array Value} {s : State} (hts : ∀ w ∈ lw_tbl, w.before av s = true) (hgv : (Jvm.Cond.and given_1 narrow_1).before av s = true) : ∃ qs : Nat × Nat × Nat, kE qs (fun q => s.heap.size ≤ q) s s.heap := by
  have hs := flat_of_before _ hgv
  have hA : ∀ a : Nat, a < s.heap.size → ¬ (fun q : Nat => s.heap.size ≤ q) a := fun a h => Nat.not_le.mpr h
  have hel : ∀ j : Nat, j < 12 → (Term.elem (Term.static "MirrorShares" "FIRST_KINDS" "[I") (.int (Int32.ofNat j))).eval av s none [] s = some (.int (fk_f j)) := by
    intro j hj
    match j, hj with
    | 0, _ => exact va_eqt (hs (.eq (.elem (Term.static "MirrorShares" "FIRST_KINDS" "[I") (.int 0)) (.int 0)) (by decide +kernel))
    | 1, _ => exact va_eqt (hs (.eq (.elem (Term.static "MirrorShares" "FIRST_KINDS" "[I") (.int 1)) (.int 3)) (by decide +kernel))
    | 2, _ => exact va_eqt (hs (.eq (.elem (Term.static "MirrorShares" "FIRST_KINDS" "[I") (.int 2)) (.int 1)) (by decide +kernel))
    | 3, _ => exact va_eqt (hs (.eq (.elem (Term.static "MirrorShares" "FIRST_KINDS" "[I") (.int 3)) (.int 0)) (by decide +kernel))
    | 4, _ => exact va_eqt (hs (.eq (.elem (Term.static "MirrorShares" "FIRST_KINDS" "[I") (.int 4)) (.int 4)) (by decide +kernel))
    | 5, _ => exact va_eqt (hs (.eq (.elem (Term.static "MirrorShares" "FIRST_KINDS" "[I") (.int 5)) (.int 0)) (by decide +kernel))
    | 6, _ => exact va_eqt (hs (.eq (.elem (Term.static "MirrorShares" "FIRST_KINDS" "[I") (.int 6)) (.int 7)) (by decide +kernel))
    | 7, _ => exact va_eqt (hs (.eq (.elem (Term.static "MirrorShares" "FIRST_KINDS" "[I") (.int 7)) (.int 3)) (by decide +kernel))
    | 8, _ => exact va_eqt (hs (.eq (.elem (Term.static "MirrorShares" "FIRST_KINDS" "[I") (.int 8)) (.int 2)) (by decide +kernel))
    | 9, _ => exact va_eqt (hs (.eq (.elem (Term.static "MirrorShares" "FIRST_KINDS" "[I") (.int 9)) (.int 3)) (by decide +kernel))
    | 10, _ => exact va_eqt (hs (.eq (.elem (Term.static "MirrorShares" "FIRST_KINDS" "[I") (.int 10)) (.int 0)) (by decide +kernel))
    | 11, _ => exact va_eqt (hs (.eq (.elem (Term.static "MirrorShares" "FIRST_KINDS" "[I") (.int 11)) (.int 2)) (by decide +kernel))
    | j + 12, hj => exact absurd hj (by omega)
  obtain ⟨t, ht, hT⟩ := va_Tof (tm := Term.static "MirrorShares" "FIRST_KINDS" "[I") (ty := .int) (N := 12) (f := fun j => .int (fk_f j)) (A := fun q : Nat => s.heap.size ≤ q) (by decide) (hs (.arrayOf (Term.static "MirrorShares" "FIRST_KINDS" "[I") .int) (by decide +kernel)) (va_eqt (hs (.eq (.length (Term.static "MirrorShares" "FIRST_KINDS" "[I")) (.int 12)) (by decide +kernel))) hel hA
  have hb : ∀ j : Nat, j < 8 → (Cond.eq (.elem (.field (Term.string "MirrorShares$Told" 43) "java/lang/String" "value" "[B") (.int (Int32.ofNat j))) (.int ((([[46, 47, 92, 102, 98, 35, 111, 120]] : List (List Int32)).getD 0 []).getD j 0))).before av s = true := by
    intro j hj
    match j, hj with
    | 0, _ => exact hs (.eq (.elem (.field (Term.string "MirrorShares$Told" 43) "java/lang/String" "value" "[B") (.int 0)) (.int 46)) (by decide +kernel)
    | 1, _ => exact hs (.eq (.elem (.field (Term.string "MirrorShares$Told" 43) "java/lang/String" "value" "[B") (.int 1)) (.int 47)) (by decide +kernel)
    | 2, _ => exact hs (.eq (.elem (.field (Term.string "MirrorShares$Told" 43) "java/lang/String" "value" "[B") (.int 2)) (.int 92)) (by decide +kernel)
    | 3, _ => exact hs (.eq (.elem (.field (Term.string "MirrorShares$Told" 43) "java/lang/String" "value" "[B") (.int 3)) (.int 102)) (by decide +kernel)
    | 4, _ => exact hs (.eq (.elem (.field (Term.string "MirrorShares$Told" 43) "java/lang/String" "value" "[B") (.int 4)) (.int 98)) (by decide +kernel)
    | 5, _ => exact hs (.eq (.elem (.field (Term.string "MirrorShares$Told" 43) "java/lang/String" "value" "[B") (.int 5)) (.int 35)) (by decide +kernel)
    | 6, _ => exact hs (.eq (.elem (.field (Term.string "MirrorShares$Told" 43) "java/lang/String" "value" "[B") (.int 6)) (.int 111)) (by decide +kernel)
    | 7, _ => exact hs (.eq (.elem (.field (Term.string "MirrorShares$Told" 43) "java/lang/String" "value" "[B") (.int 7)) (.int 120)) (by decide +kernel)
    | j + 8, hj => exact absurd hj (by omega)
  have h8 := on1 (P := fun i => ([8] : List Nat).getD i 0 < 2 ^ 31) (by decide)
  have h9 := on1 (P := fun i => (Cond.eq (.length (.field (Term.string "MirrorShares$Told" 43) "java/lang/String" "value" "[B")) (.int (Int32.ofNat (([8] : List Nat).getD i 0)))).before av s = true) (hs (.eq (.length (.field (Term.string "MirrorShares$Told" 43) "java/lang/String" "value" "[B")) (.int 8)) (by decide +kernel))
  have h10 := on1 (P := fun i => ∀ j : Nat, j < ([8] : List Nat).getD i 0 → (Cond.eq (.elem (.field (Term.string "MirrorShares$Told" 43) "java/lang/String" "value" "[B") (.int (Int32.ofNat j))) (.int ((([[46, 47, 92, 102, 98, 35, 111, 120]] : List (List Int32)).getD i []).getD j 0))).before av s = true) hb
  obtain ⟨adK, adV, hV, hk⟩ := vk_Sof (args := av) (s := s) (N := 1) (tm := fun _ => Term.string "MirrorShares$Told" 43) (len := [8]) (byt := ([[46, 47, 92, 102, 98, 35, 111, 120]] : List (List Int32))) (A := fun q : Nat => s.heap.size ≤ q) h8 (fun _ _ => hs (.exactly (Term.string "MirrorShares$Told" 43) "java/lang/String") (by decide +kernel)) (fun _ _ => hs (.eq (.field (Term.string "MirrorShares$Told" 43) "java/lang/String" "coder" "B") (.int 0)) (by decide +kernel)) (fun _ _ => hs (.arrayOf (.field (Term.string "MirrorShares$Told" 43) "java/lang/String" "value" "[B") .byte) (by decide +kernel)) h9 h10 (fun i j hi hj h => absurd (by omega : i = j) h) hA
  have h11 := on1 (P := fun i => va_O "java/lang/String" (adK 0) (fun q : Nat => s.heap.size ≤ q) s s.heap ∧ va_OF "java/lang/String" "coder" "B" (.int 0) (adK 0) (fun q : Nat => s.heap.size ≤ q) s s.heap ∧ va_OF "java/lang/String" "value" "[B" (.ref (adV 0)) (adK 0) (fun q : Nat => s.heap.size ≤ q) s s.heap ∧ va_T .byte (adV 0) (([8] : List Nat).getD i 0) (fun j => .int ((([[46, 47, 92, 102, 98, 35, 111, 120]] : List (List Int32)).getD i []).getD j 0)) (fun q : Nat => s.heap.size ≤ q) s s.heap) (hV.1 0 (by decide))
  have hV2 : vk_S 1 [8] ([[46, 47, 92, 102, 98, 35, 111, 120]] : List (List Int32)) (fun _ => adK 0) (fun _ => adV 0) (fun q : Nat => s.heap.size ≤ q) s s.heap := ⟨h11, fun i j hi hj _ => by omega⟩
  refine ⟨(adK 0, adV 0, t), vk_R.of (hts (.stringRef "MirrorShares$Told" 43 "./\\fb#ox") (List.mem_of_getElem? (i := 236) (by decide +kernel))) (hk 0 (by decide)), hV2, va_Zof (hts (.laysStatic "java/lang/String" "COMPACT_STRINGS" "Z") (List.mem_of_getElem? (i := 250) (by decide +kernel))) (hts (.initialized "java/lang/String") (List.mem_of_getElem? (i := 43) (by decide +kernel))) (va_eqi (hs (.eq (.static "java/lang/String" "COMPACT_STRINGS" "Z") (.int 1)) (by decide +kernel))) hA, va_Zref (hts (.laysStatic "MirrorShares" "FIRST_KINDS" "[I") (List.mem_of_getElem? (i := 84) (by decide +kernel))) (hts (.initialized "MirrorShares") (List.mem_of_getElem? (i := 35) (by decide +kernel))) ht hA, hT⟩
