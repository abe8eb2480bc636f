set_option maxRecDepth 20000 in
theorem inLr1 : ∀ w ∈ wsL_law_r1, w ∈ lw_tbl := fun w h => (goodIn_r wsL_law_r1 [54, 55, 37, 860, 861, 44, 1219, 56, 57, 58, 59, 60, 61, 62, 63, 38, 233, 112, 113, 39, 234, 149, 150, 40] (by decide +kernel) (by decide +kernel) w h).1
set_option maxRecDepth 20000 in
theorem inLr2 : ∀ w ∈ wsL_law_r2, w ∈ lw_tbl := fun w h => (goodIn_r wsL_law_r2 [235, 171, 172, 41, 236, 199, 237, 201, 42, 222, 223, 43, 238, 148, 239, 240, 241, 65, 66, 67, 110, 70, 111, 73] (by decide +kernel) (by decide +kernel) w h).1
set_option maxRecDepth 20000 in
theorem inLr3 : ∀ w ∈ wsL_law_r3, w ∈ lw_tbl := fun w h => (goodIn_r wsL_law_r3 [68, 76, 114, 115, 116, 117, 118, 121, 122, 123, 124, 125, 128, 120, 151, 152, 153, 154, 155, 174, 175, 176, 177, 179] (by decide +kernel) (by decide +kernel) w h).1
set_option maxRecDepth 20000 in
theorem inLr4 : ∀ w ∈ wsL_law_r4, w ∈ lw_tbl := fun w h => (goodIn_r wsL_law_r4 [180, 181, 182, 203, 204, 205, 206, 225, 226, 227, 862, 863, 864, 865, 868, 869, 871, 872, 873, 874, 875, 876, 879, 880] (by decide +kernel) (by decide +kernel) w h).1
set_option maxRecDepth 20000 in
theorem inLr5 : ∀ w ∈ wsL_law_r5, w ∈ lw_tbl := fun w h => (goodIn_r wsL_law_r5 [883, 884, 885, 886, 887, 888, 891, 892, 893, 894, 896, 897, 898, 899, 900, 901, 902, 903, 877, 261, 262, 263, 264, 81] (by decide +kernel) (by decide +kernel) w h).1
set_option maxRecDepth 20000 in
theorem inLr6 : ∀ w ∈ wsL_law_r6, w ∈ lw_tbl := fun w h => (goodIn_r wsL_law_r6 [265, 266, 267, 268, 92, 82, 984, 985, 986, 987, 867, 269, 270, 271, 272, 273, 274, 275, 276, 277, 278, 279, 280, 281] (by decide +kernel) (by decide +kernel) w h).1
set_option maxRecDepth 20000 in
theorem inLr7 : ∀ w ∈ wsL_law_r7, w ∈ lw_tbl := fun w h => (goodIn_r wsL_law_r7 [282, 283, 988, 989, 990, 991, 992, 994, 13, 995, 996, 997, 998, 284, 285, 286, 287, 71, 999, 1000, 1001, 1002, 288, 289] (by decide +kernel) (by decide +kernel) w h).1
set_option maxRecDepth 20000 in
theorem inLr8 : ∀ w ∈ wsL_law_r8, w ∈ lw_tbl := fun w h => (goodIn_r wsL_law_r8 [290, 291, 87, 292, 293, 294, 295, 296, 297, 298, 299, 46, 347, 348, 47, 359, 360, 48, 371, 372, 49, 383, 384, 45] (by decide +kernel) (by decide +kernel) w h).1
set_option maxRecDepth 20000 in
theorem inLr9 : ∀ w ∈ wsL_law_r9, w ∈ lw_tbl := fun w h => (goodIn_r wsL_law_r9 [300, 301, 302, 303, 304, 305, 306, 307, 311, 321, 315, 349, 350, 351, 352, 361, 362, 363, 364, 373, 374, 375, 376, 385] (by decide +kernel) (by decide +kernel) w h).1
set_option maxRecDepth 20000 in
theorem inLr10 : ∀ w ∈ wsL_law_r10, w ∈ lw_tbl := fun w h => (goodIn_r wsL_law_r10 [392, 393, 394, 395, 86, 1003, 1004, 1005, 1006, 870, 396, 397, 398, 399, 209, 207, 400, 401, 402, 403, 404, 405, 406, 407] (by decide +kernel) (by decide +kernel) w h).1
set_option maxRecDepth 20000 in
theorem inLr11 : ∀ w ∈ wsL_law_r11, w ∈ lw_tbl := fun w h => (goodIn_r wsL_law_r11 [408, 409, 410, 411, 412, 413, 208, 210, 414, 416, 0, 417, 418, 419, 420, 421, 212, 422, 423, 424, 425, 427, 428, 429] (by decide +kernel) (by decide +kernel) w h).1
set_option maxRecDepth 20000 in
theorem inLr12 : ∀ w ∈ wsL_law_r12, w ∈ lw_tbl := fun w h => (goodIn_r wsL_law_r12 [430, 330, 333, 1190, 1191, 1192, 1193, 1194, 1152, 1153, 1154, 1011, 1013, 14, 1014, 1155, 1157, 31, 1158, 866, 1159, 1161, 32, 1162] (by decide +kernel) (by decide +kernel) w h).1
set_option maxRecDepth 20000 in
theorem inLr13 : ∀ w ∈ wsL_law_r13, w ∈ lw_tbl := fun w h => (goodIn_r wsL_law_r13 [1187, 1188, 1189, 431, 432, 433, 434, 79, 331, 1007, 1008, 1009, 1010, 435, 436, 437, 438, 308, 312, 320, 334, 439, 442, 440] (by decide +kernel) (by decide +kernel) w h).1
set_option maxRecDepth 20000 in
theorem inLr14 : ∀ w ∈ wsL_law_r14, w ∈ lw_tbl := fun w h => (goodIn_r wsL_law_r14 [443, 444, 445, 455, 439, 440, 441, 446, 447, 448, 449, 450, 451, 452, 453, 454, 456, 459, 460, 457, 466, 456, 458, 457] (by decide +kernel) (by decide +kernel) w h).1
set_option maxRecDepth 20000 in
theorem inLr15 : ∀ w ∈ wsL_law_r15, w ∈ lw_tbl := fun w h => (goodIn_r wsL_law_r15 [461, 462, 463, 323, 324, 464, 465, 1015, 1016, 1017, 1018, 1019, 1021, 15, 1022, 467, 468, 469, 470, 75, 471, 472, 473, 474] (by decide +kernel) (by decide +kernel) w h).1
set_option maxRecDepth 20000 in
theorem inLr16 : ∀ w ∈ wsL_law_r16, w ∈ lw_tbl := fun w h => (goodIn_r wsL_law_r16 [126, 475, 477, 1, 478, 93, 127, 479, 480, 481, 482, 483, 484, 485, 486, 310, 314, 487, 489, 2, 490, 72, 74, 89] (by decide +kernel) (by decide +kernel) w h).1
set_option maxRecDepth 20000 in
theorem inLr17 : ∀ w ∈ wsL_law_r17, w ∈ lw_tbl := fun w h => (goodIn_r wsL_law_r17 [80, 309, 313, 491, 492, 50, 493, 494, 494, 495, 497, 3, 498, 499, 501, 4, 502, 513, 514, 52, 515, 503, 504, 51] (by decide +kernel) (by decide +kernel) w h).1
set_option maxRecDepth 20000 in
theorem inLr18 : ∀ w ∈ wsL_law_r18, w ∈ lw_tbl := fun w h => (goodIn_r wsL_law_r18 [505, 506, 507, 508, 509, 511, 5, 512, 516, 518, 6, 519, 520, 521, 522, 523, 524, 527, 528, 525, 532, 524, 526, 529] (by decide +kernel) (by decide +kernel) w h).1
set_option maxRecDepth 20000 in
theorem inLr19 : ∀ w ∈ wsL_law_r19, w ∈ lw_tbl := fun w h => (goodIn_r wsL_law_r19 [530, 531, 1023, 1024, 1025, 1026, 1027, 1029, 16, 1030, 533, 534, 535, 536, 540, 537, 538, 539, 541, 542, 543, 544, 546, 547] (by decide +kernel) (by decide +kernel) w h).1
set_option maxRecDepth 20000 in
theorem inLr20 : ∀ w ∈ wsL_law_r20, w ∈ lw_tbl := fun w h => (goodIn_r wsL_law_r20 [548, 549, 550, 551, 552, 553, 1031, 1032, 1033, 1034, 881, 1035, 1036, 1037, 1038, 1039, 1041, 17, 1042, 882, 1043, 1045, 18, 1046] (by decide +kernel) (by decide +kernel) w h).1
set_option maxRecDepth 20000 in
theorem inLr21 : ∀ w ∈ wsL_law_r21, w ∈ lw_tbl := fun w h => (goodIn_r wsL_law_r21 [1047, 1049, 19, 1050, 1051, 1053, 20, 1054, 1055, 1057, 21, 1058, 554, 555, 556, 557, 558, 559, 560, 561, 1059, 1060, 1061, 1062] (by decide +kernel) (by decide +kernel) w h).1
