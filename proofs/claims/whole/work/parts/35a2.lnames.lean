set_option maxRecDepth 20000 in
theorem inLr22 : ∀ w ∈ wsL_law_r22, w ∈ lw_tbl := fun w h => (goodIn_r wsL_law_r22 [1063, 1065, 22, 1066, 562, 563, 564, 565, 566, 567, 568, 569, 570, 572, 7, 573, 1067, 1068, 1069, 1070, 1071, 1073, 23, 1074] (by decide +kernel) (by decide +kernel) w h).1
set_option maxRecDepth 20000 in
theorem inLr23 : ∀ w ∈ wsL_law_r23, w ∈ lw_tbl := fun w h => (goodIn_r wsL_law_r23 [574, 575, 576, 577, 578, 579, 580, 581, 83, 1075, 1076, 1077, 1078, 582, 583, 584, 585, 1079, 1080, 1081, 1082, 586, 587, 588] (by decide +kernel) (by decide +kernel) w h).1
set_option maxRecDepth 20000 in
theorem inLr24 : ∀ w ∈ wsL_law_r24, w ∈ lw_tbl := fun w h => (goodIn_r wsL_law_r24 [589, 590, 592, 8, 593, 91, 94, 594, 596, 9, 597, 598, 601, 602, 599, 608, 598, 600, 599, 603, 604, 605, 316, 317] (by decide +kernel) (by decide +kernel) w h).1
set_option maxRecDepth 20000 in
theorem inLr25 : ∀ w ∈ wsL_law_r25, w ∈ lw_tbl := fun w h => (goodIn_r wsL_law_r25 [606, 607, 609, 610, 611, 612, 613, 614, 617, 618, 615, 622, 335, 623, 640, 641, 642, 624, 627, 625, 628, 629, 630, 325] (by decide +kernel) (by decide +kernel) w h).1
set_option maxRecDepth 20000 in
theorem inLr26 : ∀ w ∈ wsL_law_r26, w ∈ lw_tbl := fun w h => (goodIn_r wsL_law_r26 [326, 639, 624, 625, 626, 631, 632, 633, 634, 318, 319, 327, 328, 635, 636, 637, 638, 643, 646, 644, 647, 648, 649, 653] (by decide +kernel) (by decide +kernel) w h).1
set_option maxRecDepth 20000 in
theorem inLr27 : ∀ w ∈ wsL_law_r27, w ∈ lw_tbl := fun w h => (goodIn_r wsL_law_r27 [643, 644, 645, 650, 651, 652, 614, 616, 619, 620, 621, 1095, 1096, 1097, 1098, 1099, 1101, 26, 1102, 878, 1091, 1093, 25, 1094] (by decide +kernel) (by decide +kernel) w h).1
set_option maxRecDepth 20000 in
theorem inLr28 : ∀ w ∈ wsL_law_r28, w ∈ lw_tbl := fun w h => (goodIn_r wsL_law_r28 [1087, 1089, 24, 1090, 1103, 1105, 27, 1106, 1107, 654, 655, 656, 657, 658, 659, 660, 661, 662, 663, 664, 156, 157, 665, 667] (by decide +kernel) (by decide +kernel) w h).1
set_option maxRecDepth 20000 in
theorem inLr29 : ∀ w ∈ wsL_law_r29, w ∈ lw_tbl := fun w h => (goodIn_r wsL_law_r29 [10, 668, 669, 670, 671, 672, 673, 1132, 1133, 1134, 1135, 1112, 1114, 28, 1115, 889, 1116, 1118, 29, 1119, 890, 1120, 1122, 30] (by decide +kernel) (by decide +kernel) w h).1
set_option maxRecDepth 20000 in
theorem inLr30 : ∀ w ∈ wsL_law_r30, w ∈ lw_tbl := fun w h => (goodIn_r wsL_law_r30 [1123, 674, 675, 676, 677, 678, 679, 680, 681, 682, 683, 684, 685, 158, 159, 84, 686, 688, 11, 689, 88, 78, 329, 690] (by decide +kernel) (by decide +kernel) w h).1
set_option maxRecDepth 20000 in
theorem inLr31 : ∀ w ∈ wsL_law_r31, w ∈ lw_tbl := fun w h => (goodIn_r wsL_law_r31 [693, 694, 691, 698, 690, 692, 695, 696, 697, 699, 699, 1108, 1109, 1110, 1111, 700, 701, 702, 703, 704, 1124, 1125, 1126, 1127] (by decide +kernel) (by decide +kernel) w h).1
set_option maxRecDepth 20000 in
theorem inLr32 : ∀ w ∈ wsL_law_r32, w ∈ lw_tbl := fun w h => (goodIn_r wsL_law_r32 [705, 706, 707, 708, 1128, 1129, 1130, 1131, 709, 710, 711, 712, 1083, 1084, 1085, 1086, 713, 714, 715, 716, 717, 718, 719, 720] (by decide +kernel) (by decide +kernel) w h).1
set_option maxRecDepth 20000 in
theorem inLr33 : ∀ w ∈ wsL_law_r33, w ∈ lw_tbl := fun w h => (goodIn_r wsL_law_r33 [721, 722, 723, 724, 725, 726, 727, 728, 729, 730, 1136, 1137, 1138, 1139, 731, 732, 733, 734, 185, 735, 736, 737, 738, 85] (by decide +kernel) (by decide +kernel) w h).1
set_option maxRecDepth 20000 in
theorem inLr34 : ∀ w ∈ wsL_law_r34, w ∈ lw_tbl := fun w h => (goodIn_r wsL_law_r34 [183, 77, 322, 332, 90, 184, 739, 740, 741, 1140, 1141, 1142, 1143, 895, 742, 743, 744, 745, 746, 747, 748, 749, 750, 1144] (by decide +kernel) (by decide +kernel) w h).1
set_option maxRecDepth 20000 in
theorem inLr35 : ∀ w ∈ wsL_law_r35, w ∈ lw_tbl := fun w h => (goodIn_r wsL_law_r35 [1145, 1146, 1147, 751, 752, 753, 754, 755, 756, 757, 758, 759, 1148, 1149, 1150, 1151, 760, 761, 762, 763, 1163, 1164, 1165, 1166] (by decide +kernel) (by decide +kernel) w h).1
set_option maxRecDepth 20000 in
theorem inLr36 : ∀ w ∈ wsL_law_r36, w ∈ lw_tbl := fun w h => (goodIn_r wsL_law_r36 [764, 765, 766, 767, 768, 769, 770, 771, 1167, 1168, 1169, 1170, 1171, 1173, 33, 1174, 772, 773, 774, 775, 776, 778, 12, 779] (by decide +kernel) (by decide +kernel) w h).1
set_option maxRecDepth 20000 in
theorem inLr37 : ∀ w ∈ wsL_law_r37, w ∈ lw_tbl := fun w h => (goodIn_r wsL_law_r37 [1175, 1176, 1177, 1178, 1179, 1181, 34, 1182, 780, 781, 782, 783, 211, 784, 786, 785, 53, 1183, 1184, 1185, 1186, 787, 788, 789] (by decide +kernel) (by decide +kernel) w h).1
set_option maxRecDepth 20000 in
theorem inLr38 : ∀ w ∈ wsL_law_r38, w ∈ lw_tbl := fun w h => (goodIn_r wsL_law_r38 [790, 791, 794, 792, 795, 796, 797, 798, 799, 800, 801, 228, 802, 803, 805, 806, 807, 808, 826, 791, 792, 793, 827, 1220] (by decide +kernel) (by decide +kernel) w h).1
set_option maxRecDepth 20000 in
theorem inLr39 : ∀ w ∈ wsL_law_r39, w ∈ lw_tbl := fun w h => (goodIn_r wsL_law_r39 [1221, 827, 1222, 1223, 1224, 1225, 809, 810, 811, 812, 813, 814, 815, 816, 817, 818, 819, 820, 821, 822, 823, 824, 825, 1195] (by decide +kernel) (by decide +kernel) w h).1
set_option maxRecDepth 20000 in
theorem inLr40 : ∀ w ∈ wsL_law_r40, w ∈ lw_tbl := fun w h => (goodIn_r wsL_law_r40 [1196, 1197, 1198, 1199, 1201, 35, 1202, 904, 828, 829, 830, 831, 832, 835, 836, 833, 843, 844, 844, 832, 834, 833, 837, 838] (by decide +kernel) (by decide +kernel) w h).1
set_option maxRecDepth 20000 in
theorem inLr41 : ∀ w ∈ wsL_law_r41, w ∈ lw_tbl := fun w h => (goodIn_r wsL_law_r41 [839, 840, 841, 842, 1203, 1204, 1205, 1206, 845, 846, 847, 848, 849, 850, 851, 298, 347, 359, 371, 1207, 1208, 1209, 1210, 852] (by decide +kernel) (by decide +kernel) w h).1
set_option maxRecDepth 20000 in
theorem inLr42 : ∀ w ∈ wsL_law_r42, w ∈ lw_tbl := fun w h => (goodIn_r wsL_law_r42 [853, 854, 855, 229, 1211, 1212, 1213, 1214, 856, 857, 858, 859, 1215, 1216, 1217, 1218] (by decide +kernel) (by decide +kernel) w h).1
