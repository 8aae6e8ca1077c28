theorem tbm_mem {big ws : List Cond} {ps : List Nat} (hp : ws = ps.filterMap (fun i => big[i]?)) : ∀ w ∈ ws, w ∈ big := by
  intro w hw
  rw [hp] at hw
  obtain ⟨i, -, hi⟩ := List.mem_filterMap.mp hw
  exact List.mem_of_getElem? hi
set_option maxRecDepth 100000 in
theorem TBm_0 : MTL_0.flatMap mW1 = [60, 61, 30, 62, 101, 32, 102, 117, 33, 118, 172, 174, 0, 29, 175, 244, 245, 29, 246, 263, 265, 2, 29, 266, 286, 287, 41, 288, 356, 358, 4, 29, 359, 370, 372, 5, 29, 373, 375, 376, 29, 377, 379, 380, 381, 41, 382, 267, 268, 29, 269, 383, 384, 385, 41, 386, 387, 388, 41, 389, 393, 394, 41, 395, 408, 409, 410, 41, 411, 418, 419, 420, 41, 421, 429, 431, 6, 29, 432, 440, 441, 41, 442, 443, 444, 41, 445].filterMap (fun i => lw_tbl[i]?) := by decide +kernel
set_option maxRecDepth 100000 in
theorem TBm_1 : MTL_1.flatMap mW1 = [456, 457, 458, 41, 459, 472, 462, 463, 41, 464, 480, 481, 482, 41, 483, 610, 611, 29, 612, 492, 493, 43, 494, 507, 509, 7, 29, 510, 629, 631, 11, 29, 632, 634, 635, 636, 43, 637, 656, 657, 658, 43, 659, 746, 747, 42, 748, 518, 65, 66, 30, 67, 526, 527, 29, 528, 530, 531, 532, 30, 533, 677, 535, 536, 30, 537, 682, 683, 684, 30, 685, 697, 698, 699, 30, 700, 715, 716, 717, 30, 718, 553, 554, 39, 555, 571, 573, 9, 29, 574, 582, 584, 10, 29, 585].filterMap (fun i => lw_tbl[i]?) := by decide +kernel
set_option maxRecDepth 100000 in
theorem TBm_2 : MTL_2.flatMap mW1 = [756, 757, 758, 39, 759, 765, 593, 594, 39, 595, 587, 588, 589, 39, 590, 773, 774, 775, 32, 776, 823, 824, 825, 32, 826, 854, 855, 856, 39, 857, 865, 347, 29, 348, 873, 874, 29, 875, 613, 614, 615, 41, 616, 349, 350, 42, 351, 64, 65, 66, 30, 67, 68, 69, 30, 70, 71, 72, 31, 73, 534, 535, 536, 30, 537, 538, 540, 8, 30, 541, 542, 543, 30, 544, 686, 688, 13, 30, 689, 690, 691, 30, 692, 701, 703, 14, 30, 704, 705, 706, 30, 707].filterMap (fun i => lw_tbl[i]?) := by decide +kernel
set_option maxRecDepth 100000 in
theorem TBm_3 : MTL_3.flatMap mW1 = [340, 341, 42, 342, 343, 344, 42, 345, 347, 29, 348, 291, 292, 41, 293, 336, 337, 338, 33, 339, 352, 354, 3, 41, 355, 390, 391, 42, 392, 396, 388, 41, 389, 397, 398, 399, 41, 400, 446, 441, 41, 442, 447, 344, 42, 345, 417, 341, 42, 342, 412, 380, 381, 41, 382, 413, 414, 415, 41, 416, 347, 29, 348, 461, 462, 463, 41, 464, 781, 782, 783, 39, 784, 793, 794, 32, 795, 796, 798, 19, 32, 799, 777, 779, 16, 32, 780].filterMap (fun i => lw_tbl[i]?) := by decide +kernel
set_option maxRecDepth 100000 in
theorem TBm_4 : MTL_4.flatMap mW1 = [785, 787, 17, 32, 788, 789, 791, 18, 32, 792, 800, 802, 20, 32, 803, 815, 344, 42, 345, 804, 806, 21, 32, 807, 812, 813, 32, 814, 808, 810, 22, 32, 811, 827, 829, 23, 32, 830, 839, 841, 26, 32, 842, 843, 845, 27, 32, 846, 831, 833, 24, 32, 834, 835, 837, 25, 32, 838, 760, 762, 15, 39, 763, 591, 391, 42, 392, 592, 593, 594, 39, 595, 639, 641, 12, 43, 642, 660, 380, 381, 41, 382, 661, 635, 636, 43, 637, 662, 663, 664, 41, 665, 725, 726, 727, 29, 728].filterMap (fun i => lw_tbl[i]?) := by decide +kernel
set_option maxRecDepth 100000 in
theorem TBm_5 : MTL_5.flatMap mW1 = [168, 169, 170, 29, 171, 366, 367, 368, 29, 369, 404, 405, 406, 29, 407, 425, 426, 427, 29, 428, 436, 437, 438, 29, 439, 451, 452, 453, 29, 454, 468, 469, 470, 29, 471, 476, 477, 478, 29, 479, 606, 607, 608, 29, 609, 487, 488, 489, 29, 490, 625, 626, 627, 29, 628, 652, 653, 654, 29, 655, 732, 733, 734, 29, 735, 739, 740, 741, 29, 742, 514, 515, 516, 29, 517, 522, 523, 524, 29, 525, 673, 674, 675, 29, 676, 711, 712, 713, 29, 714, 548, 549, 550, 29, 551, 752, 753, 754, 29, 755].filterMap (fun i => lw_tbl[i]?) := by decide +kernel
set_option maxRecDepth 100000 in
theorem TBm_6 : MTL_6.flatMap mW1 = [578, 579, 580, 29, 581, 769, 770, 771, 29, 772, 819, 820, 821, 29, 822, 850, 851, 852, 29, 853, 861, 862, 863, 29, 864, 869, 870, 871, 29, 872, 473, 474, 28, 475, 603, 604, 28, 605, 622, 623, 28, 624, 644, 645, 28, 646, 649, 650, 28, 651, 670, 671, 28, 672, 678, 679, 680, 29, 681, 693, 694, 695, 29, 696, 708, 709, 28, 710, 722, 723, 28, 724, 162, 163, 28, 164, 363, 364, 28, 365, 401, 402, 28, 403, 422, 423, 28, 424].filterMap (fun i => lw_tbl[i]?) := by decide +kernel
set_option maxRecDepth 100000 in
theorem TBm_7 : MTL_7.flatMap mW1 = [433, 434, 28, 435, 448, 449, 28, 450, 465, 466, 28, 467, 484, 485, 28, 486, 729, 730, 28, 731, 736, 737, 28, 738, 511, 512, 28, 513, 519, 520, 28, 521, 545, 546, 28, 547, 749, 750, 28, 751, 575, 576, 28, 577, 766, 767, 28, 768, 816, 817, 28, 818, 847, 848, 28, 849, 858, 859, 28, 860, 866, 867, 28, 868, 46, 47, 29, 48, 157, 158, 28, 159, 619, 620, 28, 621, 667, 668, 28, 669].filterMap (fun i => lw_tbl[i]?) := by decide +kernel
set_option maxRecDepth 100000 in
theorem TBm_8 : MTL_8.flatMap mW1 = [876, 877, 28, 878, 596, 597, 28, 598, 719, 720, 28, 721].filterMap (fun i => lw_tbl[i]?) := by decide +kernel
theorem TBm : ∀ w ∈ MTL.flatMap mW1, w ∈ lw_tbl := by
  unfold MTL
  simp only [List.flatMap_append, List.mem_append]
  intro w h
  rcases h with h | h | h | h | h | h | h | h | h
  · exact tbm_mem TBm_0 w h
  · exact tbm_mem TBm_1 w h
  · exact tbm_mem TBm_2 w h
  · exact tbm_mem TBm_3 w h
  · exact tbm_mem TBm_4 w h
  · exact tbm_mem TBm_5 w h
  · exact tbm_mem TBm_6 w h
  · exact tbm_mem TBm_7 w h
  · exact tbm_mem TBm_8 w h
set_option maxRecDepth 100000 in
theorem TBf : ∀ w ∈ FTL.flatMap fW1, w ∈ lw_tbl := by decide +kernel
set_option maxRecDepth 100000 in
theorem TBcl : ∀ w ∈ CTL.flatMap cW1, w ∈ lw_tbl := by decide +kernel
set_option maxRecDepth 100000 in
theorem TBo : ∀ w ∈ OTL.map (fun q => Cond.methodLink (fR q.1) q.2 Lib.objectInit), w ∈ lw_tbl := by decide +kernel
set_option maxRecDepth 100000 in
theorem TBk : ∀ w ∈ KTL.map (fun q => Cond.constant (fR q.1) q.2.1 q.2.2), w ∈ lw_tbl := by decide +kernel
set_option maxRecDepth 100000 in
theorem TBl : ∀ w ∈ LTL.map (fun q => Cond.constantLong (fR q.1) q.2.1 q.2.2), w ∈ lw_tbl := by decide +kernel
set_option maxRecDepth 100000 in
theorem TBx : ∀ w ∈ XTL.flatMap (fun q => [Cond.classLink RX6 q.1 (exN q.2.2), Cond.initialized (exN q.2.2)] ++ (vx_atS RX6 q.2.1 (exN q.2.2) exNames).filter goodWord), w ∈ lw_tbl := by decide +kernel
set_option maxRecDepth 100000 in
theorem TBh : ∀ w ∈ HTL.map (fun q => Cond.classLink RL q.1 (exN q.2)), w ∈ lw_tbl := by decide +kernel
set_option maxRecDepth 100000 in
theorem TBu : ∀ w ∈ (List.range 7).flatMap (fun ci => u_ws (fR ci) (fT ci) (fN ci)), w ∈ lw_tbl := by decide +kernel
set_option maxRecDepth 100000 in
theorem TBz : ∀ w ∈ ([.instanceMethod Lib.objectInit, .code Lib.objectInit ⟨#[0xb1]⟩ 1 none, .arrayClass .int, .arrayClass .boolean] : List Cond), w ∈ lw_tbl := by decide +kernel
theorem TB_tbl : ∀ w ∈ TB, w ∈ lw_tbl := by
  unfold TB
  intro w h
  rcases List.mem_append.mp h with h | h
  · exact TBm w h
  rcases List.mem_append.mp h with h | h
  · exact TBf w h
  rcases List.mem_append.mp h with h | h
  · exact TBcl w h
  rcases List.mem_append.mp h with h | h
  · exact TBo w h
  rcases List.mem_append.mp h with h | h
  · exact TBk w h
  rcases List.mem_append.mp h with h | h
  · exact TBl w h
  rcases List.mem_append.mp h with h | h
  · exact TBx w h
  rcases List.mem_append.mp h with h | h
  · exact TBh w h
  rcases List.mem_append.mp h with h | h
  · exact TBu w h
  · exact TBz w h
