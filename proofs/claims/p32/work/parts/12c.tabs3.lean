set_option maxRecDepth 100000 in
theorem TBm_6 : MTL_6.flatMap mW1 = [578, 579, 580, 29, 581, 769, 770, 771, 29, 772, 819, 820, 821, 29, 822, 850, 851, 852, 29, 853, 861, 862, 863, 29, 864, 869, 870, 871, 29, 872, 473, 474, 28, 475, 603, 604, 28, 605, 622, 623, 28, 624, 644, 645, 28, 646, 649, 650, 28, 651, 670, 671, 28, 672, 678, 679, 680, 29, 681, 693, 694, 695, 29, 696, 708, 709, 28, 710, 722, 723, 28, 724, 162, 163, 28, 164, 363, 364, 28, 365, 401, 402, 28, 403, 422, 423, 28, 424].filterMap (fun i => lw_tbl[i]?) := by decide +kernel
set_option maxRecDepth 100000 in
theorem TBm_7 : MTL_7.flatMap mW1 = [433, 434, 28, 435, 448, 449, 28, 450, 465, 466, 28, 467, 484, 485, 28, 486, 729, 730, 28, 731, 736, 737, 28, 738, 511, 512, 28, 513, 519, 520, 28, 521, 545, 546, 28, 547, 749, 750, 28, 751, 575, 576, 28, 577, 766, 767, 28, 768, 816, 817, 28, 818, 847, 848, 28, 849, 858, 859, 28, 860, 866, 867, 28, 868, 46, 47, 29, 48, 157, 158, 28, 159, 619, 620, 28, 621, 667, 668, 28, 669].filterMap (fun i => lw_tbl[i]?) := by decide +kernel
set_option maxRecDepth 100000 in
theorem TBm_8a : [(8, 221, mL_netHolds, 0, "", 99), (8, 225, mL_linesHold, 0, "", 99)].flatMap mW1 = [876, 877, 28, 878, 596, 597, 28, 598].filterMap (fun i => lw_tbl[i]?) := by decide +kernel
set_option maxRecDepth 100000 in
theorem TBm_8b : [719, 720, 28].map (fun i => lw_tbl[i]?) = [some (Cond.methodLink RL 228 yL_refuses), some (Cond.static yL_refuses), some (Cond.initialized RL)] := by decide +kernel
set_option maxRecDepth 100000 in
set_option maxHeartbeats 4000000 in
theorem TBm_8c : lw_tbl[721]? = some (Cond.code yL_refuses cL_refuses 2 (some (.boolean))) := rfl
