theorem tbm_mem {big ws : List Cond} {ps : List Nat} (hp : ws = ps.filterMap (fun i => big[i]?)) : ∀ w ∈ ws, w ∈ big := by
  intro w hw
  rw [hp] at hw
  obtain ⟨i, -, hi⟩ := List.mem_filterMap.mp hw
  exact List.mem_of_getElem? hi
set_option maxRecDepth 100000 in
theorem TBm_0 : MTL_0.flatMap mW1 = [81, 82, 50, 83, 122, 52, 123, 138, 53, 139, 224, 226, 2, 49, 227, 296, 297, 49, 298, 323, 325, 4, 49, 326, 346, 347, 61, 348, 416, 418, 6, 49, 419, 427, 429, 7, 49, 430, 432, 433, 49, 434, 436, 437, 438, 61, 439, 327, 328, 49, 329, 440, 441, 442, 61, 443, 444, 445, 61, 446, 450, 451, 61, 452, 465, 466, 467, 61, 468, 475, 476, 477, 61, 478, 486, 488, 8, 49, 489, 497, 498, 61, 499, 500, 501, 61, 502].filterMap (fun i => lw_tbl[i]?) := by decide +kernel
set_option maxRecDepth 100000 in
theorem TBm_1 : MTL_1.flatMap mW1 = [513, 514, 515, 61, 516, 529, 519, 520, 61, 521, 537, 538, 539, 61, 540, 548, 549, 49, 550, 563, 564, 63, 565, 578, 580, 9, 49, 581, 589, 591, 10, 49, 592, 594, 595, 596, 63, 597, 611, 612, 613, 63, 614, 638, 639, 62, 640, 648, 86, 87, 50, 88, 656, 657, 49, 658, 660, 661, 662, 50, 663, 675, 191, 192, 50, 193, 182, 183, 184, 50, 185, 201, 202, 203, 50, 204, 683, 684, 685, 50, 686, 695, 696, 64, 697, 713, 715, 13, 49, 716, 724, 726, 14, 49, 727].filterMap (fun i => lw_tbl[i]?) := by decide +kernel
set_option maxRecDepth 100000 in
theorem TBm_2 : MTL_2.flatMap mW1 = [729, 730, 731, 64, 732, 738, 739, 740, 64, 741, 749, 750, 751, 64, 752, 762, 763, 764, 52, 765, 812, 813, 814, 52, 815, 843, 844, 845, 64, 846, 854, 407, 49, 408, 862, 863, 49, 864, 551, 552, 553, 61, 554, 409, 410, 62, 411, 85, 86, 87, 50, 88, 89, 90, 50, 91, 92, 93, 51, 94, 190, 191, 192, 50, 193, 664, 666, 12, 50, 667, 209, 210, 50, 211, 186, 188, 0, 50, 189, 194, 195, 50, 196, 205, 207, 1, 50, 208, 212, 213, 50, 214].filterMap (fun i => lw_tbl[i]?) := by decide +kernel
set_option maxRecDepth 100000 in
theorem TBm_3 : MTL_3.flatMap mW1 = [400, 401, 62, 402, 403, 404, 62, 405, 407, 49, 408, 351, 352, 61, 353, 396, 397, 398, 53, 399, 412, 414, 5, 61, 415, 447, 448, 62, 449, 453, 445, 61, 446, 454, 455, 456, 61, 457, 503, 498, 61, 499, 504, 404, 62, 405, 474, 401, 62, 402, 469, 437, 438, 61, 439, 470, 471, 472, 61, 473, 407, 49, 408, 518, 519, 520, 61, 521, 770, 771, 772, 64, 773, 782, 783, 52, 784, 785, 787, 19, 52, 788, 766, 768, 16, 52, 769].filterMap (fun i => lw_tbl[i]?) := by decide +kernel
set_option maxRecDepth 100000 in
theorem TBm_4 : MTL_4.flatMap mW1 = [774, 776, 17, 52, 777, 778, 780, 18, 52, 781, 789, 791, 20, 52, 792, 804, 404, 62, 405, 793, 795, 21, 52, 796, 801, 802, 52, 803, 797, 799, 22, 52, 800, 816, 818, 23, 52, 819, 828, 830, 26, 52, 831, 832, 834, 27, 52, 835, 820, 822, 24, 52, 823, 824, 826, 25, 52, 827, 733, 735, 15, 64, 736, 753, 448, 62, 449, 754, 739, 740, 64, 741, 599, 601, 11, 63, 602, 615, 437, 438, 61, 439, 616, 595, 596, 63, 597, 617, 618, 619, 61, 620, 220, 221, 222, 49, 223].filterMap (fun i => lw_tbl[i]?) := by decide +kernel
set_option maxRecDepth 100000 in
theorem TBm_5 : MTL_5.flatMap mW1 = [319, 320, 321, 49, 322, 423, 424, 425, 49, 426, 461, 462, 463, 49, 464, 482, 483, 484, 49, 485, 493, 494, 495, 49, 496, 508, 509, 510, 49, 511, 525, 526, 527, 49, 528, 533, 534, 535, 49, 536, 544, 545, 546, 49, 547, 558, 559, 560, 49, 561, 585, 586, 587, 49, 588, 607, 608, 609, 49, 610, 624, 625, 626, 49, 627, 631, 632, 633, 49, 634, 644, 645, 646, 49, 647, 652, 653, 654, 49, 655, 671, 672, 673, 49, 674, 679, 680, 681, 49, 682, 690, 691, 692, 49, 693, 720, 721, 722, 49, 723].filterMap (fun i => lw_tbl[i]?) := by decide +kernel
set_option maxRecDepth 100000 in
theorem TBm_6 : MTL_6.flatMap mW1 = [745, 746, 747, 49, 748, 758, 759, 760, 49, 761, 808, 809, 810, 49, 811, 839, 840, 841, 49, 842, 850, 851, 852, 49, 853, 858, 859, 860, 49, 861, 67, 68, 49, 69, 867, 868, 54, 869, 215, 216, 48, 217, 958, 959, 960, 54, 961, 954, 955, 956, 54, 957, 315, 316, 48, 317, 969, 970, 971, 54, 972, 420, 421, 48, 422, 980, 981, 982, 54, 983, 458, 459, 48, 460, 997, 998, 999, 54, 1000, 479, 480, 48, 481, 1013, 1014, 1015, 54, 1016, 490, 491, 48, 492].filterMap (fun i => lw_tbl[i]?) := by decide +kernel
set_option maxRecDepth 100000 in
theorem TBm_7 : MTL_7.flatMap mW1 = [1017, 1018, 1019, 54, 1020, 505, 506, 48, 507, 1021, 1022, 1023, 54, 1024, 522, 523, 48, 524, 1035, 1036, 1037, 54, 1038, 530, 531, 48, 532, 1039, 1040, 1041, 54, 1042, 541, 542, 48, 543, 1043, 1044, 1045, 54, 1046, 555, 556, 48, 557, 1047, 1048, 1049, 54, 1050, 582, 583, 48, 584, 1051, 1052, 1053, 54, 1054, 604, 605, 48, 606, 1068, 1069, 1070, 54, 1071, 621, 622, 48, 623, 1076, 1077, 1078, 54, 1079, 628, 629, 48, 630, 1080, 1081, 1082, 54, 1083, 641, 642, 48, 643].filterMap (fun i => lw_tbl[i]?) := by decide +kernel
set_option maxRecDepth 100000 in
theorem TBm_8 : MTL_8.flatMap mW1 = [1085, 1086, 1087, 54, 1088, 649, 650, 48, 651, 1089, 1090, 1091, 54, 1092, 668, 669, 48, 670, 1093, 1094, 1095, 54, 1096, 178, 179, 180, 49, 181, 1097, 1098, 1099, 54, 1100, 197, 198, 199, 49, 200, 1104, 1105, 1106, 54, 1107, 676, 677, 48, 678, 1109, 1110, 1111, 54, 1112, 687, 688, 48, 689, 1113, 1114, 1115, 54, 1116, 717, 718, 48, 719, 1117, 1118, 1119, 54, 1120, 742, 743, 48, 744, 1136, 1137, 1138, 54, 1139, 755, 756, 48, 757, 1140, 1141, 1142, 54, 1143, 805, 806, 48, 807].filterMap (fun i => lw_tbl[i]?) := by decide +kernel
set_option maxRecDepth 100000 in
theorem TBm_9 : MTL_9.flatMap mW1 = [1158, 1159, 1160, 54, 1161, 836, 837, 48, 838, 1163, 1164, 1165, 54, 1166, 847, 848, 48, 849, 1167, 1168, 1169, 54, 1170, 855, 856, 48, 857, 1171, 1172, 1173, 54, 1174, 871, 873, 28, 54, 874, 962, 963, 54, 964, 965, 967, 29, 54, 968, 973, 974, 54, 975, 976, 978, 30, 54, 979, 1005, 1007, 35, 54, 1008, 984, 986, 31, 54, 987, 988, 990, 32, 54, 991, 992, 994, 33, 54, 995, 1001, 1003, 34, 54, 1004, 1009, 1011, 36, 54, 1012, 1031, 1033, 38, 54, 1034, 1026, 1028, 37, 54, 1029].filterMap (fun i => lw_tbl[i]?) := by decide +kernel
set_option maxRecDepth 100000 in
theorem TBm_10 : MTL_10.flatMap mW1 = [1063, 1065, 41, 54, 1066, 1055, 1057, 39, 54, 1058, 1059, 1061, 40, 54, 1062, 1072, 1074, 42, 54, 1075, 1101, 1102, 54, 1103, 1108, 1098, 1099, 54, 1100, 1121, 1123, 43, 54, 1124, 1125, 1127, 44, 54, 1128, 1129, 1130, 54, 1131, 1132, 1134, 45, 54, 1135, 1148, 1149, 54, 1150, 1151, 1152, 54, 1153, 1154, 1156, 47, 54, 1157, 1144, 1146, 46, 54, 1147, 1162, 1141, 1142, 54, 1143].filterMap (fun i => lw_tbl[i]?) := by decide +kernel
theorem TBm : ∀ w ∈ MTL.flatMap mW1, w ∈ lw_tbl := by
  unfold MTL
  simp only [List.flatMap_append, List.mem_append]
  intro w h
  rcases h with h | h | h | h | h | h | h | h | h | h | h
  · exact tbm_mem TBm_0 w h
  · exact tbm_mem TBm_1 w h
  · exact tbm_mem TBm_2 w h
  · exact tbm_mem TBm_3 w h
  · exact tbm_mem TBm_4 w h
  · exact tbm_mem TBm_5 w h
  · exact tbm_mem TBm_6 w h
  · exact tbm_mem TBm_7 w h
  · exact tbm_mem TBm_8 w h
  · exact tbm_mem TBm_9 w h
  · exact tbm_mem TBm_10 w h
set_option maxRecDepth 100000 in
theorem TBf : ∀ w ∈ FTL.flatMap fW1, w ∈ lw_tbl := by decide +kernel
set_option maxRecDepth 100000 in
theorem TBcl : ∀ w ∈ CTL.flatMap cW1, w ∈ lw_tbl := by decide +kernel
set_option maxRecDepth 100000 in
theorem TBo : ∀ w ∈ OTL.map (fun q => Cond.methodLink (fR q.1) q.2 Lib.objectInit), w ∈ lw_tbl := by decide +kernel
set_option maxRecDepth 100000 in
theorem TBk : ∀ w ∈ KTL.map (fun q => Cond.constant (fR q.1) q.2.1 q.2.2), w ∈ lw_tbl := by decide +kernel
set_option maxRecDepth 100000 in
theorem TBl : ∀ w ∈ LTL.map (fun q => Cond.constantLong (fR q.1) q.2.1 q.2.2), w ∈ lw_tbl := by decide +kernel
set_option maxRecDepth 100000 in
theorem TBx : ∀ w ∈ XTL.flatMap (fun q => [Cond.classLink RX6 q.1 (exN q.2.2), Cond.initialized (exN q.2.2)] ++ (vx_atS RX6 q.2.1 (exN q.2.2) exNames).filter goodWord), w ∈ lw_tbl := by decide +kernel
set_option maxRecDepth 100000 in
theorem TBh : ∀ w ∈ HTL.map (fun q => Cond.classLink RL q.1 (exN q.2)), w ∈ lw_tbl := by decide +kernel
set_option maxRecDepth 100000 in
theorem TBu : ∀ w ∈ (List.range 8).flatMap (fun ci => u_ws (fR ci) (fT ci) (fN ci)), w ∈ lw_tbl := by decide +kernel
set_option maxRecDepth 100000 in
theorem TBz : ∀ w ∈ ([.instanceMethod Lib.objectInit, .code Lib.objectInit ⟨#[0xb1]⟩ 1 none, .arrayClass .int, .arrayClass .long, .arrayClass .boolean] : List Cond), w ∈ lw_tbl := by decide +kernel
theorem TB_tbl : ∀ w ∈ TB, w ∈ lw_tbl := by
  unfold TB
  intro w h
  rcases List.mem_append.mp h with h | h
  · exact TBm w h
  rcases List.mem_append.mp h with h | h
  · exact TBf w h
  rcases List.mem_append.mp h with h | h
  · exact TBcl w h
  rcases List.mem_append.mp h with h | h
  · exact TBo w h
  rcases List.mem_append.mp h with h | h
  · exact TBk w h
  rcases List.mem_append.mp h with h | h
  · exact TBl w h
  rcases List.mem_append.mp h with h | h
  · exact TBx w h
  rcases List.mem_append.mp h with h | h
  · exact TBh w h
  rcases List.mem_append.mp h with h | h
  · exact TBu w h
  · exact TBz w h
