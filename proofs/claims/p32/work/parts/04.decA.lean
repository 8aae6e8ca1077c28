theorem dX0_init_0 : decode cX0_init 0 = .ok (.aload_n 0, 1) := by decide +kernel
theorem dX0_init_1 : decode cX0_init 1 = .ok (.invokespecial 3, 3) := by decide +kernel
theorem dX0_init_4 : decode cX0_init 4 = .ok (.aload_n 0, 1) := by decide +kernel
theorem dX0_init_5 : decode cX0_init 5 = .ok (.bipush 8, 2) := by decide +kernel
theorem dX0_init_7 : decode cX0_init 7 = .ok (.newarray .int, 2) := by decide +kernel
theorem dX0_init_9 : decode cX0_init 9 = .ok (.putfield 9, 3) := by decide +kernel
theorem dX0_init_12 : decode cX0_init 12 = .ok (.aload_n 0, 1) := by decide +kernel
theorem dX0_init_13 : decode cX0_init 13 = .ok (.bipush 8, 2) := by decide +kernel
theorem dX0_init_15 : decode cX0_init 15 = .ok (.newarray .int, 2) := by decide +kernel
theorem dX0_init_17 : decode cX0_init 17 = .ok (.putfield 15, 3) := by decide +kernel
theorem dX0_init_20 : decode cX0_init 20 = .ok (.aload_n 0, 1) := by decide +kernel
theorem dX0_init_21 : decode cX0_init 21 = .ok (.bipush 60, 2) := by decide +kernel
theorem dX0_init_23 : decode cX0_init 23 = .ok (.newarray .int, 2) := by decide +kernel
theorem dX0_init_25 : decode cX0_init 25 = .ok (.putfield 18, 3) := by decide +kernel
theorem dX0_init_28 : decode cX0_init 28 = .ok (.aload_n 0, 1) := by decide +kernel
theorem dX0_init_29 : decode cX0_init 29 = .ok (.bipush 64, 2) := by decide +kernel
theorem dX0_init_31 : decode cX0_init 31 = .ok (.newarray .int, 2) := by decide +kernel
theorem dX0_init_33 : decode cX0_init 33 = .ok (.putfield 21, 3) := by decide +kernel
theorem dX0_init_36 : decode cX0_init 36 = .ok (.aload_n 0, 1) := by decide +kernel
theorem dX0_init_37 : decode cX0_init 37 = .ok (.iconst 3, 1) := by decide +kernel
theorem dX0_init_38 : decode cX0_init 38 = .ok (.invokevirtual 24, 3) := by decide +kernel
theorem dX0_init_41 : decode cX0_init 41 = .ok (.return_, 1) := by decide +kernel
theorem dX0_begin_0 : decode cX0_begin 0 = .ok (.aload_n 0, 1) := by decide +kernel
theorem dX0_begin_1 : decode cX0_begin 1 = .ok (.iload_n 1, 1) := by decide +kernel
theorem dX0_begin_2 : decode cX0_begin 2 = .ok (.putfield 28, 3) := by decide +kernel
theorem dX0_begin_5 : decode cX0_begin 5 = .ok (.aload_n 0, 1) := by decide +kernel
theorem dX0_begin_6 : decode cX0_begin 6 = .ok (.iconst 0, 1) := by decide +kernel
theorem dX0_begin_7 : decode cX0_begin 7 = .ok (.putfield 32, 3) := by decide +kernel
theorem dX0_begin_10 : decode cX0_begin 10 = .ok (.aload_n 0, 1) := by decide +kernel
theorem dX0_begin_11 : decode cX0_begin 11 = .ok (.getfield 9, 3) := by decide +kernel
theorem dX0_begin_14 : decode cX0_begin 14 = .ok (.invokestatic 35, 3) := by decide +kernel
theorem dX0_begin_17 : decode cX0_begin 17 = .ok (.aload_n 0, 1) := by decide +kernel
theorem dX0_begin_18 : decode cX0_begin 18 = .ok (.getfield 21, 3) := by decide +kernel
theorem dX0_begin_21 : decode cX0_begin 21 = .ok (.iconst 0, 1) := by decide +kernel
theorem dX0_begin_22 : decode cX0_begin 22 = .ok (.invokestatic 39, 3) := by decide +kernel
theorem dX0_begin_25 : decode cX0_begin 25 = .ok (.return_, 1) := by decide +kernel
theorem dX0_putHome_0 : decode cX0_putHome 0 = .ok (.iconst 0, 1) := by decide +kernel
theorem dX0_putHome_1 : decode cX0_putHome 1 = .ok (.istore_n 1, 1) := by decide +kernel
theorem dX0_putHome_2 : decode cX0_putHome 2 = .ok (.iload_n 1, 1) := by decide +kernel
theorem dX0_putHome_3 : decode cX0_putHome 3 = .ok (.aload_n 0, 1) := by decide +kernel
theorem dX0_putHome_4 : decode cX0_putHome 4 = .ok (.arraylength, 1) := by decide +kernel
theorem dX0_putHome_5 : decode cX0_putHome 5 = .ok (.if_icmp .ge 13, 3) := by decide +kernel
theorem dX0_putHome_8 : decode cX0_putHome 8 = .ok (.aload_n 0, 1) := by decide +kernel
theorem dX0_putHome_9 : decode cX0_putHome 9 = .ok (.iload_n 1, 1) := by decide +kernel
theorem dX0_putHome_10 : decode cX0_putHome 10 = .ok (.iload_n 1, 1) := by decide +kernel
theorem dX0_putHome_11 : decode cX0_putHome 11 = .ok (.iastore, 1) := by decide +kernel
theorem dX0_putHome_12 : decode cX0_putHome 12 = .ok (.iinc 1 1, 3) := by decide +kernel
theorem dX0_putHome_15 : decode cX0_putHome 15 = .ok (.goto (-13), 3) := by decide +kernel
theorem dX0_putHome_18 : decode cX0_putHome 18 = .ok (.return_, 1) := by decide +kernel
theorem dX0_isHome_0 : decode cX0_isHome 0 = .ok (.iconst 0, 1) := by decide +kernel
theorem dX0_isHome_1 : decode cX0_isHome 1 = .ok (.istore_n 1, 1) := by decide +kernel
theorem dX0_isHome_2 : decode cX0_isHome 2 = .ok (.iload_n 1, 1) := by decide +kernel
theorem dX0_isHome_3 : decode cX0_isHome 3 = .ok (.aload_n 0, 1) := by decide +kernel
theorem dX0_isHome_4 : decode cX0_isHome 4 = .ok (.arraylength, 1) := by decide +kernel
theorem dX0_isHome_5 : decode cX0_isHome 5 = .ok (.if_icmp .ge 18, 3) := by decide +kernel
theorem dX0_isHome_8 : decode cX0_isHome 8 = .ok (.aload_n 0, 1) := by decide +kernel
theorem dX0_isHome_9 : decode cX0_isHome 9 = .ok (.iload_n 1, 1) := by decide +kernel
theorem dX0_isHome_10 : decode cX0_isHome 10 = .ok (.iaload, 1) := by decide +kernel
theorem dX0_isHome_11 : decode cX0_isHome 11 = .ok (.iload_n 1, 1) := by decide +kernel
theorem dX0_isHome_12 : decode cX0_isHome 12 = .ok (.if_icmp .eq 5, 3) := by decide +kernel
theorem dX0_isHome_15 : decode cX0_isHome 15 = .ok (.iconst 0, 1) := by decide +kernel
theorem dX0_isHome_16 : decode cX0_isHome 16 = .ok (.ireturn, 1) := by decide +kernel
theorem dX0_isHome_17 : decode cX0_isHome 17 = .ok (.iinc 1 1, 3) := by decide +kernel
theorem dX0_isHome_20 : decode cX0_isHome 20 = .ok (.goto (-18), 3) := by decide +kernel
theorem dX0_isHome_23 : decode cX0_isHome 23 = .ok (.iconst 1, 1) := by decide +kernel
theorem dX0_isHome_24 : decode cX0_isHome 24 = .ok (.ireturn, 1) := by decide +kernel
theorem dX0_change_0 : decode cX0_change 0 = .ok (.iload_n 1, 1) := by decide +kernel
theorem dX0_change_1 : decode cX0_change 1 = .ok (.ifCond .lt 29, 3) := by decide +kernel
theorem dX0_change_4 : decode cX0_change 4 = .ok (.iload_n 1, 1) := by decide +kernel
theorem dX0_change_5 : decode cX0_change 5 = .ok (.aload_n 0, 1) := by decide +kernel
theorem dX0_change_6 : decode cX0_change 6 = .ok (.arraylength, 1) := by decide +kernel
theorem dX0_change_7 : decode cX0_change 7 = .ok (.iconst 1, 1) := by decide +kernel
theorem dX0_change_8 : decode cX0_change 8 = .ok (.isub, 1) := by decide +kernel
theorem dX0_change_9 : decode cX0_change 9 = .ok (.if_icmp .ge 21, 3) := by decide +kernel
theorem dX0_change_12 : decode cX0_change 12 = .ok (.aload_n 0, 1) := by decide +kernel
theorem dX0_change_13 : decode cX0_change 13 = .ok (.iload_n 1, 1) := by decide +kernel
theorem dX0_change_14 : decode cX0_change 14 = .ok (.iaload, 1) := by decide +kernel
theorem dX0_change_15 : decode cX0_change 15 = .ok (.istore_n 2, 1) := by decide +kernel
theorem dX0_change_16 : decode cX0_change 16 = .ok (.aload_n 0, 1) := by decide +kernel
theorem dX0_change_17 : decode cX0_change 17 = .ok (.iload_n 1, 1) := by decide +kernel
theorem dX0_change_18 : decode cX0_change 18 = .ok (.aload_n 0, 1) := by decide +kernel
theorem dX0_change_19 : decode cX0_change 19 = .ok (.iload_n 1, 1) := by decide +kernel
theorem dX0_change_20 : decode cX0_change 20 = .ok (.iconst 1, 1) := by decide +kernel
theorem dX0_change_21 : decode cX0_change 21 = .ok (.iadd, 1) := by decide +kernel
theorem dX0_change_22 : decode cX0_change 22 = .ok (.iaload, 1) := by decide +kernel
theorem dX0_change_23 : decode cX0_change 23 = .ok (.iastore, 1) := by decide +kernel
theorem dX0_change_24 : decode cX0_change 24 = .ok (.aload_n 0, 1) := by decide +kernel
theorem dX0_change_25 : decode cX0_change 25 = .ok (.iload_n 1, 1) := by decide +kernel
theorem dX0_change_26 : decode cX0_change 26 = .ok (.iconst 1, 1) := by decide +kernel
theorem dX0_change_27 : decode cX0_change 27 = .ok (.iadd, 1) := by decide +kernel
theorem dX0_change_28 : decode cX0_change 28 = .ok (.iload_n 2, 1) := by decide +kernel
theorem dX0_change_29 : decode cX0_change 29 = .ok (.iastore, 1) := by decide +kernel
theorem dX0_change_30 : decode cX0_change 30 = .ok (.return_, 1) := by decide +kernel
theorem dX0_addCrossing_0 : decode cX0_addCrossing 0 = .ok (.iload_n 2, 1) := by decide +kernel
theorem dX0_addCrossing_1 : decode cX0_addCrossing 1 = .ok (.ifCond .eq 7, 3) := by decide +kernel
theorem dX0_addCrossing_4 : decode cX0_addCrossing 4 = .ok (.iconst 1, 1) := by decide +kernel
theorem dX0_addCrossing_5 : decode cX0_addCrossing 5 = .ok (.goto 4, 3) := by decide +kernel
theorem dX0_addCrossing_8 : decode cX0_addCrossing 8 = .ok (.iconst (-1), 1) := by decide +kernel
theorem dX0_addCrossing_9 : decode cX0_addCrossing 9 = .ok (.istore_n 3, 1) := by decide +kernel
theorem dX0_addCrossing_10 : decode cX0_addCrossing 10 = .ok (.aload_n 0, 1) := by decide +kernel
theorem dX0_addCrossing_11 : decode cX0_addCrossing 11 = .ok (.aload_n 0, 1) := by decide +kernel
theorem dX0_addCrossing_12 : decode cX0_addCrossing 12 = .ok (.iload_n 1, 1) := by decide +kernel
theorem dX0_addCrossing_13 : decode cX0_addCrossing 13 = .ok (.invokevirtual 45, 3) := by decide +kernel
theorem dX0_addCrossing_16 : decode cX0_addCrossing 16 = .ok (.aload_n 0, 1) := by decide +kernel
theorem dX0_addCrossing_17 : decode cX0_addCrossing 17 = .ok (.iload_n 1, 1) := by decide +kernel
theorem dX0_addCrossing_18 : decode cX0_addCrossing 18 = .ok (.iconst 1, 1) := by decide +kernel
theorem dX0_addCrossing_19 : decode cX0_addCrossing 19 = .ok (.iadd, 1) := by decide +kernel
theorem dX0_addCrossing_20 : decode cX0_addCrossing 20 = .ok (.invokevirtual 45, 3) := by decide +kernel
theorem dX0_addCrossing_23 : decode cX0_addCrossing 23 = .ok (.iload_n 3, 1) := by decide +kernel
theorem dX0_addCrossing_24 : decode cX0_addCrossing 24 = .ok (.invokevirtual 48, 3) := by decide +kernel
theorem dX0_addCrossing_27 : decode cX0_addCrossing 27 = .ok (.aload_n 0, 1) := by decide +kernel
theorem dX0_addCrossing_28 : decode cX0_addCrossing 28 = .ok (.aload_n 0, 1) := by decide +kernel
theorem dX0_addCrossing_29 : decode cX0_addCrossing 29 = .ok (.iload_n 1, 1) := by decide +kernel
theorem dX0_addCrossing_30 : decode cX0_addCrossing 30 = .ok (.iconst 1, 1) := by decide +kernel
theorem dX0_addCrossing_31 : decode cX0_addCrossing 31 = .ok (.iadd, 1) := by decide +kernel
theorem dX0_addCrossing_32 : decode cX0_addCrossing 32 = .ok (.invokevirtual 45, 3) := by decide +kernel
theorem dX0_addCrossing_35 : decode cX0_addCrossing 35 = .ok (.aload_n 0, 1) := by decide +kernel
theorem dX0_addCrossing_36 : decode cX0_addCrossing 36 = .ok (.iload_n 1, 1) := by decide +kernel
theorem dX0_addCrossing_37 : decode cX0_addCrossing 37 = .ok (.invokevirtual 45, 3) := by decide +kernel
theorem dX0_addCrossing_40 : decode cX0_addCrossing 40 = .ok (.iload_n 3, 1) := by decide +kernel
theorem dX0_addCrossing_41 : decode cX0_addCrossing 41 = .ok (.ineg, 1) := by decide +kernel
theorem dX0_addCrossing_42 : decode cX0_addCrossing 42 = .ok (.invokevirtual 48, 3) := by decide +kernel
theorem dX0_addCrossing_45 : decode cX0_addCrossing 45 = .ok (.aload_n 0, 1) := by decide +kernel
theorem dX0_addCrossing_46 : decode cX0_addCrossing 46 = .ok (.getfield 9, 3) := by decide +kernel
theorem dX0_addCrossing_49 : decode cX0_addCrossing 49 = .ok (.iload_n 1, 1) := by decide +kernel
theorem dX0_addCrossing_50 : decode cX0_addCrossing 50 = .ok (.invokestatic 52, 3) := by decide +kernel
theorem dX0_addCrossing_53 : decode cX0_addCrossing 53 = .ok (.aload_n 0, 1) := by decide +kernel
theorem dX0_addCrossing_54 : decode cX0_addCrossing 54 = .ok (.getfield 32, 3) := by decide +kernel
theorem dX0_addCrossing_57 : decode cX0_addCrossing 57 = .ok (.ifCond .lt 35, 3) := by decide +kernel
theorem dX0_addCrossing_60 : decode cX0_addCrossing 60 = .ok (.aload_n 0, 1) := by decide +kernel
theorem dX0_addCrossing_61 : decode cX0_addCrossing 61 = .ok (.getfield 32, 3) := by decide +kernel
theorem dX0_addCrossing_64 : decode cX0_addCrossing 64 = .ok (.aload_n 0, 1) := by decide +kernel
theorem dX0_addCrossing_65 : decode cX0_addCrossing 65 = .ok (.getfield 18, 3) := by decide +kernel
theorem dX0_addCrossing_68 : decode cX0_addCrossing 68 = .ok (.arraylength, 1) := by decide +kernel
theorem dX0_addCrossing_69 : decode cX0_addCrossing 69 = .ok (.if_icmp .ge 23, 3) := by decide +kernel
theorem dX0_addCrossing_72 : decode cX0_addCrossing 72 = .ok (.aload_n 0, 1) := by decide +kernel
theorem dX0_addCrossing_73 : decode cX0_addCrossing 73 = .ok (.getfield 18, 3) := by decide +kernel
theorem dX0_addCrossing_76 : decode cX0_addCrossing 76 = .ok (.aload_n 0, 1) := by decide +kernel
theorem dX0_addCrossing_77 : decode cX0_addCrossing 77 = .ok (.getfield 32, 3) := by decide +kernel
theorem dX0_addCrossing_80 : decode cX0_addCrossing 80 = .ok (.iload_n 1, 1) := by decide +kernel
theorem dX0_addCrossing_81 : decode cX0_addCrossing 81 = .ok (.iastore, 1) := by decide +kernel
theorem dX0_addCrossing_82 : decode cX0_addCrossing 82 = .ok (.aload_n 0, 1) := by decide +kernel
theorem dX0_addCrossing_83 : decode cX0_addCrossing 83 = .ok (.dup, 1) := by decide +kernel
theorem dX0_addCrossing_84 : decode cX0_addCrossing 84 = .ok (.getfield 32, 3) := by decide +kernel
theorem dX0_addCrossing_87 : decode cX0_addCrossing 87 = .ok (.iconst 1, 1) := by decide +kernel
theorem dX0_addCrossing_88 : decode cX0_addCrossing 88 = .ok (.iadd, 1) := by decide +kernel
theorem dX0_addCrossing_89 : decode cX0_addCrossing 89 = .ok (.putfield 32, 3) := by decide +kernel
theorem dX0_addCrossing_92 : decode cX0_addCrossing 92 = .ok (.return_, 1) := by decide +kernel
theorem dX0_addOver_0 : decode cX0_addOver 0 = .ok (.iload_n 1, 1) := by decide +kernel
theorem dX0_addOver_1 : decode cX0_addOver 1 = .ok (.bipush 8, 2) := by decide +kernel
theorem dX0_addOver_3 : decode cX0_addOver 3 = .ok (.imul, 1) := by decide +kernel
theorem dX0_addOver_4 : decode cX0_addOver 4 = .ok (.iload_n 2, 1) := by decide +kernel
theorem dX0_addOver_5 : decode cX0_addOver 5 = .ok (.iadd, 1) := by decide +kernel
theorem dX0_addOver_6 : decode cX0_addOver 6 = .ok (.istore 4, 2) := by decide +kernel
theorem dX0_addOver_8 : decode cX0_addOver 8 = .ok (.iload 4, 2) := by decide +kernel
theorem dX0_addOver_10 : decode cX0_addOver 10 = .ok (.ifCond .lt 24, 3) := by decide +kernel
theorem dX0_addOver_13 : decode cX0_addOver 13 = .ok (.iload 4, 2) := by decide +kernel
theorem dX0_addOver_15 : decode cX0_addOver 15 = .ok (.aload_n 0, 1) := by decide +kernel
theorem dX0_addOver_16 : decode cX0_addOver 16 = .ok (.getfield 21, 3) := by decide +kernel
theorem dX0_addOver_19 : decode cX0_addOver 19 = .ok (.arraylength, 1) := by decide +kernel
theorem dX0_addOver_20 : decode cX0_addOver 20 = .ok (.if_icmp .ge 14, 3) := by decide +kernel
theorem dX0_addOver_23 : decode cX0_addOver 23 = .ok (.aload_n 0, 1) := by decide +kernel
theorem dX0_addOver_24 : decode cX0_addOver 24 = .ok (.getfield 21, 3) := by decide +kernel
theorem dX0_addOver_27 : decode cX0_addOver 27 = .ok (.iload 4, 2) := by decide +kernel
theorem dX0_addOver_29 : decode cX0_addOver 29 = .ok (.dup2, 1) := by decide +kernel
theorem dX0_addOver_30 : decode cX0_addOver 30 = .ok (.iaload, 1) := by decide +kernel
theorem dX0_addOver_31 : decode cX0_addOver 31 = .ok (.iload_n 3, 1) := by decide +kernel
theorem dX0_addOver_32 : decode cX0_addOver 32 = .ok (.iadd, 1) := by decide +kernel
theorem dX0_addOver_33 : decode cX0_addOver 33 = .ok (.iastore, 1) := by decide +kernel
theorem dX0_addOver_34 : decode cX0_addOver 34 = .ok (.return_, 1) := by decide +kernel
theorem dX0_carrierAt_0 : decode cX0_carrierAt 0 = .ok (.iload_n 1, 1) := by decide +kernel
theorem dX0_carrierAt_1 : decode cX0_carrierAt 1 = .ok (.ifCond .lt 21, 3) := by decide +kernel
theorem dX0_carrierAt_4 : decode cX0_carrierAt 4 = .ok (.iload_n 1, 1) := by decide +kernel
theorem dX0_carrierAt_5 : decode cX0_carrierAt 5 = .ok (.aload_n 0, 1) := by decide +kernel
theorem dX0_carrierAt_6 : decode cX0_carrierAt 6 = .ok (.getfield 9, 3) := by decide +kernel
theorem dX0_carrierAt_9 : decode cX0_carrierAt 9 = .ok (.arraylength, 1) := by decide +kernel
theorem dX0_carrierAt_10 : decode cX0_carrierAt 10 = .ok (.if_icmp .ge 12, 3) := by decide +kernel
theorem dX0_carrierAt_13 : decode cX0_carrierAt 13 = .ok (.aload_n 0, 1) := by decide +kernel
theorem dX0_carrierAt_14 : decode cX0_carrierAt 14 = .ok (.getfield 9, 3) := by decide +kernel
theorem dX0_carrierAt_17 : decode cX0_carrierAt 17 = .ok (.iload_n 1, 1) := by decide +kernel
theorem dX0_carrierAt_18 : decode cX0_carrierAt 18 = .ok (.iaload, 1) := by decide +kernel
theorem dX0_carrierAt_19 : decode cX0_carrierAt 19 = .ok (.goto 4, 3) := by decide +kernel
theorem dX0_carrierAt_22 : decode cX0_carrierAt 22 = .ok (.iconst (-1), 1) := by decide +kernel
theorem dX0_carrierAt_23 : decode cX0_carrierAt 23 = .ok (.ireturn, 1) := by decide +kernel
theorem dX0_timesOver_0 : decode cX0_timesOver 0 = .ok (.iload_n 1, 1) := by decide +kernel
theorem dX0_timesOver_1 : decode cX0_timesOver 1 = .ok (.bipush 8, 2) := by decide +kernel
theorem dX0_timesOver_3 : decode cX0_timesOver 3 = .ok (.imul, 1) := by decide +kernel
theorem dX0_timesOver_4 : decode cX0_timesOver 4 = .ok (.iload_n 2, 1) := by decide +kernel
theorem dX0_timesOver_5 : decode cX0_timesOver 5 = .ok (.iadd, 1) := by decide +kernel
theorem dX0_timesOver_6 : decode cX0_timesOver 6 = .ok (.istore_n 3, 1) := by decide +kernel
theorem dX0_timesOver_7 : decode cX0_timesOver 7 = .ok (.iload_n 3, 1) := by decide +kernel
theorem dX0_timesOver_8 : decode cX0_timesOver 8 = .ok (.ifCond .lt 21, 3) := by decide +kernel
theorem dX0_timesOver_11 : decode cX0_timesOver 11 = .ok (.iload_n 3, 1) := by decide +kernel
theorem dX0_timesOver_12 : decode cX0_timesOver 12 = .ok (.aload_n 0, 1) := by decide +kernel
theorem dX0_timesOver_13 : decode cX0_timesOver 13 = .ok (.getfield 21, 3) := by decide +kernel
theorem dX0_timesOver_16 : decode cX0_timesOver 16 = .ok (.arraylength, 1) := by decide +kernel
theorem dX0_timesOver_17 : decode cX0_timesOver 17 = .ok (.if_icmp .ge 12, 3) := by decide +kernel
theorem dX0_timesOver_20 : decode cX0_timesOver 20 = .ok (.aload_n 0, 1) := by decide +kernel
theorem dX0_timesOver_21 : decode cX0_timesOver 21 = .ok (.getfield 21, 3) := by decide +kernel
theorem dX0_timesOver_24 : decode cX0_timesOver 24 = .ok (.iload_n 3, 1) := by decide +kernel
theorem dX0_timesOver_25 : decode cX0_timesOver 25 = .ok (.iaload, 1) := by decide +kernel
theorem dX0_timesOver_26 : decode cX0_timesOver 26 = .ok (.goto 4, 3) := by decide +kernel
theorem dX0_timesOver_29 : decode cX0_timesOver 29 = .ok (.iconst 0, 1) := by decide +kernel
theorem dX0_timesOver_30 : decode cX0_timesOver 30 = .ok (.ireturn, 1) := by decide +kernel
theorem dX0_orderByCycles_0 : decode cX0_orderByCycles 0 = .ok (.iconst 1, 1) := by decide +kernel
theorem dX0_orderByCycles_1 : decode cX0_orderByCycles 1 = .ok (.istore_n 1, 1) := by decide +kernel
theorem dX0_orderByCycles_2 : decode cX0_orderByCycles 2 = .ok (.iconst 0, 1) := by decide +kernel
theorem dX0_orderByCycles_3 : decode cX0_orderByCycles 3 = .ok (.istore_n 2, 1) := by decide +kernel
theorem dX0_orderByCycles_4 : decode cX0_orderByCycles 4 = .ok (.iload_n 2, 1) := by decide +kernel
theorem dX0_orderByCycles_5 : decode cX0_orderByCycles 5 = .ok (.aload_n 0, 1) := by decide +kernel
theorem dX0_orderByCycles_6 : decode cX0_orderByCycles 6 = .ok (.getfield 28, 3) := by decide +kernel
theorem dX0_orderByCycles_9 : decode cX0_orderByCycles 9 = .ok (.if_icmp .ge 19, 3) := by decide +kernel
theorem dX0_orderByCycles_12 : decode cX0_orderByCycles 12 = .ok (.iload_n 1, 1) := by decide +kernel
theorem dX0_orderByCycles_13 : decode cX0_orderByCycles 13 = .ok (.aload_n 0, 1) := by decide +kernel
theorem dX0_orderByCycles_14 : decode cX0_orderByCycles 14 = .ok (.iload_n 2, 1) := by decide +kernel
theorem dX0_orderByCycles_15 : decode cX0_orderByCycles 15 = .ok (.invokevirtual 55, 3) := by decide +kernel
theorem dX0_orderByCycles_18 : decode cX0_orderByCycles 18 = .ok (.invokestatic 58, 3) := by decide +kernel
theorem dX0_orderByCycles_21 : decode cX0_orderByCycles 21 = .ok (.istore_n 1, 1) := by decide +kernel
theorem dX0_orderByCycles_22 : decode cX0_orderByCycles 22 = .ok (.iinc 2 1, 3) := by decide +kernel
theorem dX0_orderByCycles_25 : decode cX0_orderByCycles 25 = .ok (.goto (-21), 3) := by decide +kernel
theorem dX0_orderByCycles_28 : decode cX0_orderByCycles 28 = .ok (.iload_n 1, 1) := by decide +kernel
theorem dX0_orderByCycles_29 : decode cX0_orderByCycles 29 = .ok (.ireturn, 1) := by decide +kernel
theorem dX0_cycleThrough_0 : decode cX0_cycleThrough 0 = .ok (.iconst 1, 1) := by decide +kernel
theorem dX0_cycleThrough_1 : decode cX0_cycleThrough 1 = .ok (.istore_n 2, 1) := by decide +kernel
theorem dX0_cycleThrough_2 : decode cX0_cycleThrough 2 = .ok (.aload_n 0, 1) := by decide +kernel
theorem dX0_cycleThrough_3 : decode cX0_cycleThrough 3 = .ok (.iload_n 1, 1) := by decide +kernel
theorem dX0_cycleThrough_4 : decode cX0_cycleThrough 4 = .ok (.invokevirtual 45, 3) := by decide +kernel
theorem dX0_cycleThrough_7 : decode cX0_cycleThrough 7 = .ok (.istore_n 3, 1) := by decide +kernel
theorem dX0_cycleThrough_8 : decode cX0_cycleThrough 8 = .ok (.iload_n 2, 1) := by decide +kernel
theorem dX0_cycleThrough_9 : decode cX0_cycleThrough 9 = .ok (.bipush 8, 2) := by decide +kernel
theorem dX0_cycleThrough_11 : decode cX0_cycleThrough 11 = .ok (.if_icmp .ge 20, 3) := by decide +kernel
theorem dX0_cycleThrough_14 : decode cX0_cycleThrough 14 = .ok (.iload_n 3, 1) := by decide +kernel
theorem dX0_cycleThrough_15 : decode cX0_cycleThrough 15 = .ok (.iload_n 1, 1) := by decide +kernel
theorem dX0_cycleThrough_16 : decode cX0_cycleThrough 16 = .ok (.if_icmp .eq 15, 3) := by decide +kernel
theorem dX0_cycleThrough_19 : decode cX0_cycleThrough 19 = .ok (.aload_n 0, 1) := by decide +kernel
theorem dX0_cycleThrough_20 : decode cX0_cycleThrough 20 = .ok (.iload_n 3, 1) := by decide +kernel
theorem dX0_cycleThrough_21 : decode cX0_cycleThrough 21 = .ok (.invokevirtual 45, 3) := by decide +kernel
theorem dX0_cycleThrough_24 : decode cX0_cycleThrough 24 = .ok (.istore_n 3, 1) := by decide +kernel
theorem dX0_cycleThrough_25 : decode cX0_cycleThrough 25 = .ok (.iinc 2 1, 3) := by decide +kernel
theorem dX0_cycleThrough_28 : decode cX0_cycleThrough 28 = .ok (.goto (-20), 3) := by decide +kernel
theorem dX0_cycleThrough_31 : decode cX0_cycleThrough 31 = .ok (.iload_n 2, 1) := by decide +kernel
theorem dX0_cycleThrough_32 : decode cX0_cycleThrough 32 = .ok (.ireturn, 1) := by decide +kernel
theorem dX0_leastMultiple_0 : decode cX0_leastMultiple 0 = .ok (.iconst 1, 1) := by decide +kernel
theorem dX0_leastMultiple_1 : decode cX0_leastMultiple 1 = .ok (.istore_n 2, 1) := by decide +kernel
theorem dX0_leastMultiple_2 : decode cX0_leastMultiple 2 = .ok (.iload_n 2, 1) := by decide +kernel
theorem dX0_leastMultiple_3 : decode cX0_leastMultiple 3 = .ok (.iload_n 1, 1) := by decide +kernel
theorem dX0_leastMultiple_4 : decode cX0_leastMultiple 4 = .ok (.if_icmp .ge 17, 3) := by decide +kernel
theorem dX0_leastMultiple_7 : decode cX0_leastMultiple 7 = .ok (.iload_n 0, 1) := by decide +kernel
theorem dX0_leastMultiple_8 : decode cX0_leastMultiple 8 = .ok (.iload_n 2, 1) := by decide +kernel
theorem dX0_leastMultiple_9 : decode cX0_leastMultiple 9 = .ok (.imul, 1) := by decide +kernel
theorem dX0_leastMultiple_10 : decode cX0_leastMultiple 10 = .ok (.iload_n 1, 1) := by decide +kernel
theorem dX0_leastMultiple_11 : decode cX0_leastMultiple 11 = .ok (.irem, 1) := by decide +kernel
theorem dX0_leastMultiple_12 : decode cX0_leastMultiple 12 = .ok (.ifCond .eq 9, 3) := by decide +kernel
theorem dX0_leastMultiple_15 : decode cX0_leastMultiple 15 = .ok (.iinc 2 1, 3) := by decide +kernel
theorem dX0_leastMultiple_18 : decode cX0_leastMultiple 18 = .ok (.goto (-16), 3) := by decide +kernel
theorem dX0_leastMultiple_21 : decode cX0_leastMultiple 21 = .ok (.iload_n 0, 1) := by decide +kernel
theorem dX0_leastMultiple_22 : decode cX0_leastMultiple 22 = .ok (.iload_n 2, 1) := by decide +kernel
theorem dX0_leastMultiple_23 : decode cX0_leastMultiple 23 = .ok (.imul, 1) := by decide +kernel
theorem dX0_leastMultiple_24 : decode cX0_leastMultiple 24 = .ok (.ireturn, 1) := by decide +kernel
theorem dX0_orderByBraiding_0 : decode cX0_orderByBraiding 0 = .ok (.aload_n 0, 1) := by decide +kernel
theorem dX0_orderByBraiding_1 : decode cX0_orderByBraiding 1 = .ok (.getfield 15, 3) := by decide +kernel
theorem dX0_orderByBraiding_4 : decode cX0_orderByBraiding 4 = .ok (.invokestatic 35, 3) := by decide +kernel
theorem dX0_orderByBraiding_7 : decode cX0_orderByBraiding 7 = .ok (.iconst 0, 1) := by decide +kernel
theorem dX0_orderByBraiding_8 : decode cX0_orderByBraiding 8 = .ok (.istore_n 1, 1) := by decide +kernel
theorem dX0_orderByBraiding_9 : decode cX0_orderByBraiding 9 = .ok (.aload_n 0, 1) := by decide +kernel
theorem dX0_orderByBraiding_10 : decode cX0_orderByBraiding 10 = .ok (.invokevirtual 62, 3) := by decide +kernel
theorem dX0_orderByBraiding_13 : decode cX0_orderByBraiding 13 = .ok (.iinc 1 1, 3) := by decide +kernel
theorem dX0_orderByBraiding_16 : decode cX0_orderByBraiding 16 = .ok (.iload_n 1, 1) := by decide +kernel
theorem dX0_orderByBraiding_17 : decode cX0_orderByBraiding 17 = .ok (.sipush 1000, 3) := by decide +kernel
theorem dX0_orderByBraiding_20 : decode cX0_orderByBraiding 20 = .ok (.if_icmp .ge 13, 3) := by decide +kernel
theorem dX0_orderByBraiding_23 : decode cX0_orderByBraiding 23 = .ok (.aload_n 0, 1) := by decide +kernel
theorem dX0_orderByBraiding_24 : decode cX0_orderByBraiding 24 = .ok (.getfield 15, 3) := by decide +kernel
theorem dX0_orderByBraiding_27 : decode cX0_orderByBraiding 27 = .ok (.invokestatic 65, 3) := by decide +kernel
theorem dX0_orderByBraiding_30 : decode cX0_orderByBraiding 30 = .ok (.ifCond .eq (-21), 3) := by decide +kernel
theorem dX0_orderByBraiding_33 : decode cX0_orderByBraiding 33 = .ok (.iload_n 1, 1) := by decide +kernel
theorem dX0_orderByBraiding_34 : decode cX0_orderByBraiding 34 = .ok (.ireturn, 1) := by decide +kernel
theorem dX0_braidOnce_0 : decode cX0_braidOnce 0 = .ok (.iconst 0, 1) := by decide +kernel
theorem dX0_braidOnce_1 : decode cX0_braidOnce 1 = .ok (.istore_n 1, 1) := by decide +kernel
theorem dX0_braidOnce_2 : decode cX0_braidOnce 2 = .ok (.iload_n 1, 1) := by decide +kernel
theorem dX0_braidOnce_3 : decode cX0_braidOnce 3 = .ok (.aload_n 0, 1) := by decide +kernel
theorem dX0_braidOnce_4 : decode cX0_braidOnce 4 = .ok (.getfield 32, 3) := by decide +kernel
theorem dX0_braidOnce_7 : decode cX0_braidOnce 7 = .ok (.if_icmp .ge 31, 3) := by decide +kernel
theorem dX0_braidOnce_10 : decode cX0_braidOnce 10 = .ok (.iload_n 1, 1) := by decide +kernel
theorem dX0_braidOnce_11 : decode cX0_braidOnce 11 = .ok (.aload_n 0, 1) := by decide +kernel
theorem dX0_braidOnce_12 : decode cX0_braidOnce 12 = .ok (.getfield 18, 3) := by decide +kernel
theorem dX0_braidOnce_15 : decode cX0_braidOnce 15 = .ok (.arraylength, 1) := by decide +kernel
theorem dX0_braidOnce_16 : decode cX0_braidOnce 16 = .ok (.if_icmp .ge 22, 3) := by decide +kernel
theorem dX0_braidOnce_19 : decode cX0_braidOnce 19 = .ok (.aload_n 0, 1) := by decide +kernel
theorem dX0_braidOnce_20 : decode cX0_braidOnce 20 = .ok (.getfield 15, 3) := by decide +kernel
theorem dX0_braidOnce_23 : decode cX0_braidOnce 23 = .ok (.aload_n 0, 1) := by decide +kernel
theorem dX0_braidOnce_24 : decode cX0_braidOnce 24 = .ok (.getfield 18, 3) := by decide +kernel
theorem dX0_braidOnce_27 : decode cX0_braidOnce 27 = .ok (.iload_n 1, 1) := by decide +kernel
theorem dX0_braidOnce_28 : decode cX0_braidOnce 28 = .ok (.iaload, 1) := by decide +kernel
theorem dX0_braidOnce_29 : decode cX0_braidOnce 29 = .ok (.invokestatic 52, 3) := by decide +kernel
theorem dX0_braidOnce_32 : decode cX0_braidOnce 32 = .ok (.iinc 1 1, 3) := by decide +kernel
theorem dX0_braidOnce_35 : decode cX0_braidOnce 35 = .ok (.goto (-33), 3) := by decide +kernel
theorem dX0_braidOnce_38 : decode cX0_braidOnce 38 = .ok (.return_, 1) := by decide +kernel
theorem dX1_init_0 : decode cX1_init 0 = .ok (.aload_n 0, 1) := by decide +kernel
theorem dX1_init_1 : decode cX1_init 1 = .ok (.invokespecial 1, 3) := by decide +kernel
theorem dX1_init_4 : decode cX1_init 4 = .ok (.aload_n 0, 1) := by decide +kernel
theorem dX1_init_5 : decode cX1_init 5 = .ok (.bipush 100, 2) := by decide +kernel
theorem dX1_init_7 : decode cX1_init 7 = .ok (.putfield 7, 3) := by decide +kernel
theorem dX1_init_10 : decode cX1_init 10 = .ok (.aload_n 0, 1) := by decide +kernel
theorem dX1_init_11 : decode cX1_init 11 = .ok (.bipush 20, 2) := by decide +kernel
theorem dX1_init_13 : decode cX1_init 13 = .ok (.putfield 13, 3) := by decide +kernel
theorem dX1_init_16 : decode cX1_init 16 = .ok (.return_, 1) := by decide +kernel
theorem dX1_yarnStrength_0 : decode cX1_yarnStrength 0 = .ok (.bipush 10, 2) := by decide +kernel
theorem dX1_yarnStrength_2 : decode cX1_yarnStrength 2 = .ok (.bipush 100, 2) := by decide +kernel
theorem dX1_yarnStrength_4 : decode cX1_yarnStrength 4 = .ok (.iconst 3, 1) := by decide +kernel
theorem dX1_yarnStrength_5 : decode cX1_yarnStrength 5 = .ok (.iload_n 1, 1) := by decide +kernel
theorem dX1_yarnStrength_6 : decode cX1_yarnStrength 6 = .ok (.bipush 12, 2) := by decide +kernel
theorem dX1_yarnStrength_8 : decode cX1_yarnStrength 8 = .ok (.isub, 1) := by decide +kernel
theorem dX1_yarnStrength_9 : decode cX1_yarnStrength 9 = .ok (.invokestatic 16, 3) := by decide +kernel
theorem dX1_yarnStrength_12 : decode cX1_yarnStrength 12 = .ok (.imul, 1) := by decide +kernel
theorem dX1_yarnStrength_13 : decode cX1_yarnStrength 13 = .ok (.isub, 1) := by decide +kernel
theorem dX1_yarnStrength_14 : decode cX1_yarnStrength 14 = .ok (.invokestatic 22, 3) := by decide +kernel
theorem dX1_yarnStrength_17 : decode cX1_yarnStrength 17 = .ok (.istore_n 2, 1) := by decide +kernel
theorem dX1_yarnStrength_18 : decode cX1_yarnStrength 18 = .ok (.aload_n 0, 1) := by decide +kernel
theorem dX1_yarnStrength_19 : decode cX1_yarnStrength 19 = .ok (.getfield 7, 3) := by decide +kernel
theorem dX1_yarnStrength_22 : decode cX1_yarnStrength 22 = .ok (.iload_n 2, 1) := by decide +kernel
theorem dX1_yarnStrength_23 : decode cX1_yarnStrength 23 = .ok (.imul, 1) := by decide +kernel
theorem dX1_yarnStrength_24 : decode cX1_yarnStrength 24 = .ok (.bipush 100, 2) := by decide +kernel
theorem dX1_yarnStrength_26 : decode cX1_yarnStrength 26 = .ok (.idiv, 1) := by decide +kernel
theorem dX1_yarnStrength_27 : decode cX1_yarnStrength 27 = .ok (.istore_n 3, 1) := by decide +kernel
theorem dX1_yarnStrength_28 : decode cX1_yarnStrength 28 = .ok (.iconst 1, 1) := by decide +kernel
theorem dX1_yarnStrength_29 : decode cX1_yarnStrength 29 = .ok (.iload_n 3, 1) := by decide +kernel
theorem dX1_yarnStrength_30 : decode cX1_yarnStrength 30 = .ok (.aload_n 0, 1) := by decide +kernel
theorem dX1_yarnStrength_31 : decode cX1_yarnStrength 31 = .ok (.getfield 13, 3) := by decide +kernel
theorem dX1_yarnStrength_34 : decode cX1_yarnStrength 34 = .ok (.imul, 1) := by decide +kernel
theorem dX1_yarnStrength_35 : decode cX1_yarnStrength 35 = .ok (.aload_n 0, 1) := by decide +kernel
theorem dX1_yarnStrength_36 : decode cX1_yarnStrength 36 = .ok (.getfield 13, 3) := by decide +kernel
theorem dX1_yarnStrength_39 : decode cX1_yarnStrength 39 = .ok (.iconst 5, 1) := by decide +kernel
theorem dX1_yarnStrength_40 : decode cX1_yarnStrength 40 = .ok (.iadd, 1) := by decide +kernel
theorem dX1_yarnStrength_41 : decode cX1_yarnStrength 41 = .ok (.invokestatic 26, 3) := by decide +kernel
theorem dX1_yarnStrength_44 : decode cX1_yarnStrength 44 = .ok (.invokestatic 22, 3) := by decide +kernel
theorem dX1_yarnStrength_47 : decode cX1_yarnStrength 47 = .ok (.ireturn, 1) := by decide +kernel
theorem dX2_init_0 : decode cX2_init 0 = .ok (.aload_n 0, 1) := by decide +kernel
theorem dX2_init_1 : decode cX2_init 1 = .ok (.invokespecial 3, 3) := by decide +kernel
theorem dX2_init_4 : decode cX2_init 4 = .ok (.aload_n 0, 1) := by decide +kernel
theorem dX2_init_5 : decode cX2_init 5 = .ok (.iconst 0, 1) := by decide +kernel
theorem dX2_init_6 : decode cX2_init 6 = .ok (.putfield 9, 3) := by decide +kernel
theorem dX2_init_9 : decode cX2_init 9 = .ok (.aload_n 0, 1) := by decide +kernel
theorem dX2_init_10 : decode cX2_init 10 = .ok (.iload_n 1, 1) := by decide +kernel
theorem dX2_init_11 : decode cX2_init 11 = .ok (.putfield 15, 3) := by decide +kernel
theorem dX2_init_14 : decode cX2_init 14 = .ok (.aload_n 0, 1) := by decide +kernel
theorem dX2_init_15 : decode cX2_init 15 = .ok (.iload_n 2, 1) := by decide +kernel
theorem dX2_init_16 : decode cX2_init 16 = .ok (.putfield 18, 3) := by decide +kernel
theorem dX2_init_19 : decode cX2_init 19 = .ok (.aload_n 0, 1) := by decide +kernel
theorem dX2_init_20 : decode cX2_init 20 = .ok (.iload_n 3, 1) := by decide +kernel
theorem dX2_init_21 : decode cX2_init 21 = .ok (.putfield 21, 3) := by decide +kernel
theorem dX2_init_24 : decode cX2_init 24 = .ok (.return_, 1) := by decide +kernel
theorem dX2_spunOf_0 : decode cX2_spunOf 0 = .ok (.new 10, 3) := by decide +kernel
theorem dX2_spunOf_3 : decode cX2_spunOf 3 = .ok (.dup, 1) := by decide +kernel
theorem dX2_spunOf_4 : decode cX2_spunOf 4 = .ok (.iconst 0, 1) := by decide +kernel
theorem dX2_spunOf_5 : decode cX2_spunOf 5 = .ok (.iload_n 2, 1) := by decide +kernel
theorem dX2_spunOf_6 : decode cX2_spunOf 6 = .ok (.iload_n 3, 1) := by decide +kernel
theorem dX2_spunOf_7 : decode cX2_spunOf 7 = .ok (.invokespecial 24, 3) := by decide +kernel
theorem dX2_spunOf_10 : decode cX2_spunOf 10 = .ok (.astore 4, 2) := by decide +kernel
theorem dX2_spunOf_12 : decode cX2_spunOf 12 = .ok (.aload 4, 2) := by decide +kernel
theorem dX2_spunOf_14 : decode cX2_spunOf 14 = .ok (.aload_n 0, 1) := by decide +kernel
theorem dX2_spunOf_15 : decode cX2_spunOf 15 = .ok (.iload_n 1, 1) := by decide +kernel
theorem dX2_spunOf_16 : decode cX2_spunOf 16 = .ok (.invokevirtual 27, 3) := by decide +kernel
theorem dX2_spunOf_19 : decode cX2_spunOf 19 = .ok (.putfield 33, 3) := by decide +kernel
theorem dX2_spunOf_22 : decode cX2_spunOf 22 = .ok (.aload 4, 2) := by decide +kernel
theorem dX2_spunOf_24 : decode cX2_spunOf 24 = .ok (.iconst 1, 1) := by decide +kernel
theorem dX2_spunOf_25 : decode cX2_spunOf 25 = .ok (.putfield 36, 3) := by decide +kernel
theorem dX2_spunOf_28 : decode cX2_spunOf 28 = .ok (.aload 4, 2) := by decide +kernel
theorem dX2_spunOf_30 : decode cX2_spunOf 30 = .ok (.aload 4, 2) := by decide +kernel
theorem dX2_spunOf_32 : decode cX2_spunOf 32 = .ok (.iload_n 1, 1) := by decide +kernel
theorem dX2_spunOf_33 : decode cX2_spunOf 33 = .ok (.invokevirtual 39, 3) := by decide +kernel
theorem dX2_spunOf_36 : decode cX2_spunOf 36 = .ok (.putfield 42, 3) := by decide +kernel
theorem dX2_spunOf_39 : decode cX2_spunOf 39 = .ok (.aload 4, 2) := by decide +kernel
theorem dX2_spunOf_41 : decode cX2_spunOf 41 = .ok (.areturn, 1) := by decide +kernel
theorem dX2_laidLength_0 : decode cX2_laidLength 0 = .ok (.aload_n 0, 1) := by decide +kernel
theorem dX2_laidLength_1 : decode cX2_laidLength 1 = .ok (.getfield 21, 3) := by decide +kernel
theorem dX2_laidLength_4 : decode cX2_laidLength 4 = .ok (.aload_n 1, 1) := by decide +kernel
theorem dX2_laidLength_5 : decode cX2_laidLength 5 = .ok (.getfield 21, 3) := by decide +kernel
theorem dX2_laidLength_8 : decode cX2_laidLength 8 = .ok (.aload_n 2, 1) := by decide +kernel
theorem dX2_laidLength_9 : decode cX2_laidLength 9 = .ok (.getfield 21, 3) := by decide +kernel
theorem dX2_laidLength_12 : decode cX2_laidLength 12 = .ok (.invokestatic 45, 3) := by decide +kernel
theorem dX2_laidLength_15 : decode cX2_laidLength 15 = .ok (.invokestatic 45, 3) := by decide +kernel
theorem dX2_laidLength_18 : decode cX2_laidLength 18 = .ok (.bipush 100, 2) := by decide +kernel
theorem dX2_laidLength_20 : decode cX2_laidLength 20 = .ok (.iload_n 3, 1) := by decide +kernel
theorem dX2_laidLength_21 : decode cX2_laidLength 21 = .ok (.isub, 1) := by decide +kernel
theorem dX2_laidLength_22 : decode cX2_laidLength 22 = .ok (.imul, 1) := by decide +kernel
theorem dX2_laidLength_23 : decode cX2_laidLength 23 = .ok (.bipush 100, 2) := by decide +kernel
theorem dX2_laidLength_25 : decode cX2_laidLength 25 = .ok (.idiv, 1) := by decide +kernel
theorem dX2_laidLength_26 : decode cX2_laidLength 26 = .ok (.ireturn, 1) := by decide +kernel
theorem dX2_laidOf_0 : decode cX2_laidOf 0 = .ok (.new 10, 3) := by decide +kernel
theorem dX2_laidOf_3 : decode cX2_laidOf 3 = .ok (.dup, 1) := by decide +kernel
theorem dX2_laidOf_4 : decode cX2_laidOf 4 = .ok (.aload_n 0, 1) := by decide +kernel
theorem dX2_laidOf_5 : decode cX2_laidOf 5 = .ok (.getfield 15, 3) := by decide +kernel
theorem dX2_laidOf_8 : decode cX2_laidOf 8 = .ok (.iconst 1, 1) := by decide +kernel
theorem dX2_laidOf_9 : decode cX2_laidOf 9 = .ok (.iadd, 1) := by decide +kernel
theorem dX2_laidOf_10 : decode cX2_laidOf 10 = .ok (.aload_n 0, 1) := by decide +kernel
theorem dX2_laidOf_11 : decode cX2_laidOf 11 = .ok (.getfield 18, 3) := by decide +kernel
theorem dX2_laidOf_14 : decode cX2_laidOf 14 = .ok (.ifCond .ne 7, 3) := by decide +kernel
theorem dX2_laidOf_17 : decode cX2_laidOf 17 = .ok (.iconst 1, 1) := by decide +kernel
theorem dX2_laidOf_18 : decode cX2_laidOf 18 = .ok (.goto 4, 3) := by decide +kernel
theorem dX2_laidOf_21 : decode cX2_laidOf 21 = .ok (.iconst 0, 1) := by decide +kernel
theorem dX2_laidOf_22 : decode cX2_laidOf 22 = .ok (.aload_n 0, 1) := by decide +kernel
theorem dX2_laidOf_23 : decode cX2_laidOf 23 = .ok (.aload_n 1, 1) := by decide +kernel
theorem dX2_laidOf_24 : decode cX2_laidOf 24 = .ok (.aload_n 2, 1) := by decide +kernel
theorem dX2_laidOf_25 : decode cX2_laidOf 25 = .ok (.iload_n 3, 1) := by decide +kernel
theorem dX2_laidOf_26 : decode cX2_laidOf 26 = .ok (.invokestatic 51, 3) := by decide +kernel
theorem dX2_laidOf_29 : decode cX2_laidOf 29 = .ok (.invokespecial 24, 3) := by decide +kernel
theorem dX2_laidOf_32 : decode cX2_laidOf 32 = .ok (.astore 4, 2) := by decide +kernel
theorem dX2_laidOf_34 : decode cX2_laidOf 34 = .ok (.aload 4, 2) := by decide +kernel
theorem dX2_laidOf_36 : decode cX2_laidOf 36 = .ok (.aload_n 0, 1) := by decide +kernel
theorem dX2_laidOf_37 : decode cX2_laidOf 37 = .ok (.invokevirtual 55, 3) := by decide +kernel
theorem dX2_laidOf_40 : decode cX2_laidOf 40 = .ok (.aload_n 1, 1) := by decide +kernel
theorem dX2_laidOf_41 : decode cX2_laidOf 41 = .ok (.invokevirtual 55, 3) := by decide +kernel
theorem dX2_laidOf_44 : decode cX2_laidOf 44 = .ok (.iadd, 1) := by decide +kernel
theorem dX2_laidOf_45 : decode cX2_laidOf 45 = .ok (.aload_n 2, 1) := by decide +kernel
theorem dX2_laidOf_46 : decode cX2_laidOf 46 = .ok (.invokevirtual 55, 3) := by decide +kernel
theorem dX2_laidOf_49 : decode cX2_laidOf 49 = .ok (.iadd, 1) := by decide +kernel
theorem dX2_laidOf_50 : decode cX2_laidOf 50 = .ok (.bipush 100, 2) := by decide +kernel
theorem dX2_laidOf_52 : decode cX2_laidOf 52 = .ok (.iload_n 3, 1) := by decide +kernel
theorem dX2_laidOf_53 : decode cX2_laidOf 53 = .ok (.isub, 1) := by decide +kernel
theorem dX2_laidOf_54 : decode cX2_laidOf 54 = .ok (.imul, 1) := by decide +kernel
theorem dX2_laidOf_55 : decode cX2_laidOf 55 = .ok (.bipush 100, 2) := by decide +kernel
theorem dX2_laidOf_57 : decode cX2_laidOf 57 = .ok (.idiv, 1) := by decide +kernel
theorem dX2_laidOf_58 : decode cX2_laidOf 58 = .ok (.putfield 33, 3) := by decide +kernel
theorem dX2_laidOf_61 : decode cX2_laidOf 61 = .ok (.aload 4, 2) := by decide +kernel
theorem dX2_laidOf_63 : decode cX2_laidOf 63 = .ok (.aload_n 0, 1) := by decide +kernel
theorem dX2_laidOf_64 : decode cX2_laidOf 64 = .ok (.getfield 36, 3) := by decide +kernel
theorem dX2_laidOf_67 : decode cX2_laidOf 67 = .ok (.aload_n 1, 1) := by decide +kernel
theorem dX2_laidOf_68 : decode cX2_laidOf 68 = .ok (.getfield 36, 3) := by decide +kernel
theorem dX2_laidOf_71 : decode cX2_laidOf 71 = .ok (.iadd, 1) := by decide +kernel
theorem dX2_laidOf_72 : decode cX2_laidOf 72 = .ok (.aload_n 2, 1) := by decide +kernel
theorem dX2_laidOf_73 : decode cX2_laidOf 73 = .ok (.getfield 36, 3) := by decide +kernel
theorem dX2_laidOf_76 : decode cX2_laidOf 76 = .ok (.iadd, 1) := by decide +kernel
theorem dX2_laidOf_77 : decode cX2_laidOf 77 = .ok (.putfield 36, 3) := by decide +kernel
theorem dX2_laidOf_80 : decode cX2_laidOf 80 = .ok (.aload 4, 2) := by decide +kernel
theorem dX2_laidOf_82 : decode cX2_laidOf 82 = .ok (.aload_n 0, 1) := by decide +kernel
theorem dX2_laidOf_83 : decode cX2_laidOf 83 = .ok (.getfield 42, 3) := by decide +kernel
theorem dX2_laidOf_86 : decode cX2_laidOf 86 = .ok (.aload_n 1, 1) := by decide +kernel
theorem dX2_laidOf_87 : decode cX2_laidOf 87 = .ok (.getfield 42, 3) := by decide +kernel
theorem dX2_laidOf_90 : decode cX2_laidOf 90 = .ok (.iadd, 1) := by decide +kernel
theorem dX2_laidOf_91 : decode cX2_laidOf 91 = .ok (.aload_n 2, 1) := by decide +kernel
theorem dX2_laidOf_92 : decode cX2_laidOf 92 = .ok (.getfield 42, 3) := by decide +kernel
theorem dX2_laidOf_95 : decode cX2_laidOf 95 = .ok (.iadd, 1) := by decide +kernel
theorem dX2_laidOf_96 : decode cX2_laidOf 96 = .ok (.aload 4, 2) := by decide +kernel
theorem dX2_laidOf_98 : decode cX2_laidOf 98 = .ok (.iload_n 3, 1) := by decide +kernel
theorem dX2_laidOf_99 : decode cX2_laidOf 99 = .ok (.aload 4, 2) := by decide +kernel
theorem dX2_laidOf_101 : decode cX2_laidOf 101 = .ok (.getfield 36, 3) := by decide +kernel
theorem dX2_laidOf_104 : decode cX2_laidOf 104 = .ok (.imul, 1) := by decide +kernel
theorem dX2_laidOf_105 : decode cX2_laidOf 105 = .ok (.invokevirtual 39, 3) := by decide +kernel
theorem dX2_laidOf_108 : decode cX2_laidOf 108 = .ok (.iadd, 1) := by decide +kernel
theorem dX2_laidOf_109 : decode cX2_laidOf 109 = .ok (.putfield 42, 3) := by decide +kernel
theorem dX2_laidOf_112 : decode cX2_laidOf 112 = .ok (.aload 4, 2) := by decide +kernel
theorem dX2_laidOf_114 : decode cX2_laidOf 114 = .ok (.aload_n 0, 1) := by decide +kernel
theorem dX2_laidOf_115 : decode cX2_laidOf 115 = .ok (.putfield 59, 3) := by decide +kernel
theorem dX2_laidOf_118 : decode cX2_laidOf 118 = .ok (.aload 4, 2) := by decide +kernel
theorem dX2_laidOf_120 : decode cX2_laidOf 120 = .ok (.aload_n 1, 1) := by decide +kernel
theorem dX2_laidOf_121 : decode cX2_laidOf 121 = .ok (.putfield 63, 3) := by decide +kernel
theorem dX2_laidOf_124 : decode cX2_laidOf 124 = .ok (.aload 4, 2) := by decide +kernel
theorem dX2_laidOf_126 : decode cX2_laidOf 126 = .ok (.aload_n 2, 1) := by decide +kernel
theorem dX2_laidOf_127 : decode cX2_laidOf 127 = .ok (.putfield 66, 3) := by decide +kernel
theorem dX2_laidOf_130 : decode cX2_laidOf 130 = .ok (.aload_n 0, 1) := by decide +kernel
theorem dX2_laidOf_131 : decode cX2_laidOf 131 = .ok (.iconst 1, 1) := by decide +kernel
theorem dX2_laidOf_132 : decode cX2_laidOf 132 = .ok (.putfield 9, 3) := by decide +kernel
theorem dX2_laidOf_135 : decode cX2_laidOf 135 = .ok (.aload_n 1, 1) := by decide +kernel
theorem dX2_laidOf_136 : decode cX2_laidOf 136 = .ok (.iconst 1, 1) := by decide +kernel
theorem dX2_laidOf_137 : decode cX2_laidOf 137 = .ok (.putfield 9, 3) := by decide +kernel
theorem dX2_laidOf_140 : decode cX2_laidOf 140 = .ok (.aload_n 2, 1) := by decide +kernel
theorem dX2_laidOf_141 : decode cX2_laidOf 141 = .ok (.iconst 1, 1) := by decide +kernel
theorem dX2_laidOf_142 : decode cX2_laidOf 142 = .ok (.putfield 9, 3) := by decide +kernel
theorem dX2_laidOf_145 : decode cX2_laidOf 145 = .ok (.aload 4, 2) := by decide +kernel
theorem dX2_laidOf_147 : decode cX2_laidOf 147 = .ok (.areturn, 1) := by decide +kernel
theorem dX2_splicedLength_0 : decode cX2_splicedLength 0 = .ok (.aload_n 0, 1) := by decide +kernel
theorem dX2_splicedLength_1 : decode cX2_splicedLength 1 = .ok (.getfield 21, 3) := by decide +kernel
theorem dX2_splicedLength_4 : decode cX2_splicedLength 4 = .ok (.aload_n 1, 1) := by decide +kernel
theorem dX2_splicedLength_5 : decode cX2_splicedLength 5 = .ok (.getfield 21, 3) := by decide +kernel
theorem dX2_splicedLength_8 : decode cX2_splicedLength 8 = .ok (.iadd, 1) := by decide +kernel
theorem dX2_splicedLength_9 : decode cX2_splicedLength 9 = .ok (.iload_n 2, 1) := by decide +kernel
theorem dX2_splicedLength_10 : decode cX2_splicedLength 10 = .ok (.isub, 1) := by decide +kernel
theorem dX2_splicedLength_11 : decode cX2_splicedLength 11 = .ok (.ireturn, 1) := by decide +kernel
theorem dX2_splicedOf_0 : decode cX2_splicedOf 0 = .ok (.new 10, 3) := by decide +kernel
theorem dX2_splicedOf_3 : decode cX2_splicedOf 3 = .ok (.dup, 1) := by decide +kernel
theorem dX2_splicedOf_4 : decode cX2_splicedOf 4 = .ok (.aload_n 0, 1) := by decide +kernel
theorem dX2_splicedOf_5 : decode cX2_splicedOf 5 = .ok (.getfield 15, 3) := by decide +kernel
theorem dX2_splicedOf_8 : decode cX2_splicedOf 8 = .ok (.aload_n 0, 1) := by decide +kernel
theorem dX2_splicedOf_9 : decode cX2_splicedOf 9 = .ok (.getfield 18, 3) := by decide +kernel
theorem dX2_splicedOf_12 : decode cX2_splicedOf 12 = .ok (.aload_n 0, 1) := by decide +kernel
theorem dX2_splicedOf_13 : decode cX2_splicedOf 13 = .ok (.aload_n 1, 1) := by decide +kernel
theorem dX2_splicedOf_14 : decode cX2_splicedOf 14 = .ok (.iload_n 2, 1) := by decide +kernel
theorem dX2_splicedOf_15 : decode cX2_splicedOf 15 = .ok (.invokestatic 69, 3) := by decide +kernel
theorem dX2_splicedOf_18 : decode cX2_splicedOf 18 = .ok (.invokespecial 24, 3) := by decide +kernel
theorem dX2_splicedOf_21 : decode cX2_splicedOf 21 = .ok (.astore_n 3, 1) := by decide +kernel
theorem dX2_splicedOf_22 : decode cX2_splicedOf 22 = .ok (.aload_n 3, 1) := by decide +kernel
theorem dX2_splicedOf_23 : decode cX2_splicedOf 23 = .ok (.aload_n 0, 1) := by decide +kernel
theorem dX2_splicedOf_24 : decode cX2_splicedOf 24 = .ok (.invokevirtual 55, 3) := by decide +kernel
theorem dX2_splicedOf_27 : decode cX2_splicedOf 27 = .ok (.aload_n 1, 1) := by decide +kernel
theorem dX2_splicedOf_28 : decode cX2_splicedOf 28 = .ok (.invokevirtual 55, 3) := by decide +kernel
theorem dX2_splicedOf_31 : decode cX2_splicedOf 31 = .ok (.invokestatic 45, 3) := by decide +kernel
theorem dX2_splicedOf_34 : decode cX2_splicedOf 34 = .ok (.bipush 70, 2) := by decide +kernel
theorem dX2_splicedOf_36 : decode cX2_splicedOf 36 = .ok (.iconst 5, 1) := by decide +kernel
theorem dX2_splicedOf_37 : decode cX2_splicedOf 37 = .ok (.iload_n 2, 1) := by decide +kernel
theorem dX2_splicedOf_38 : decode cX2_splicedOf 38 = .ok (.imul, 1) := by decide +kernel
theorem dX2_splicedOf_39 : decode cX2_splicedOf 39 = .ok (.iadd, 1) := by decide +kernel
theorem dX2_splicedOf_40 : decode cX2_splicedOf 40 = .ok (.imul, 1) := by decide +kernel
theorem dX2_splicedOf_41 : decode cX2_splicedOf 41 = .ok (.bipush 100, 2) := by decide +kernel
theorem dX2_splicedOf_43 : decode cX2_splicedOf 43 = .ok (.idiv, 1) := by decide +kernel
theorem dX2_splicedOf_44 : decode cX2_splicedOf 44 = .ok (.putfield 33, 3) := by decide +kernel
theorem dX2_splicedOf_47 : decode cX2_splicedOf 47 = .ok (.aload_n 3, 1) := by decide +kernel
theorem dX2_splicedOf_48 : decode cX2_splicedOf 48 = .ok (.aload_n 0, 1) := by decide +kernel
theorem dX2_splicedOf_49 : decode cX2_splicedOf 49 = .ok (.getfield 36, 3) := by decide +kernel
theorem dX2_splicedOf_52 : decode cX2_splicedOf 52 = .ok (.aload_n 1, 1) := by decide +kernel
theorem dX2_splicedOf_53 : decode cX2_splicedOf 53 = .ok (.getfield 36, 3) := by decide +kernel
theorem dX2_splicedOf_56 : decode cX2_splicedOf 56 = .ok (.invokestatic 73, 3) := by decide +kernel
theorem dX2_splicedOf_59 : decode cX2_splicedOf 59 = .ok (.putfield 36, 3) := by decide +kernel
theorem dX2_splicedOf_62 : decode cX2_splicedOf 62 = .ok (.aload_n 3, 1) := by decide +kernel
theorem dX2_splicedOf_63 : decode cX2_splicedOf 63 = .ok (.aload_n 0, 1) := by decide +kernel
theorem dX2_splicedOf_64 : decode cX2_splicedOf 64 = .ok (.getfield 42, 3) := by decide +kernel
theorem dX2_splicedOf_67 : decode cX2_splicedOf 67 = .ok (.putfield 42, 3) := by decide +kernel
theorem dX2_splicedOf_70 : decode cX2_splicedOf 70 = .ok (.aload_n 3, 1) := by decide +kernel
theorem dX2_splicedOf_71 : decode cX2_splicedOf 71 = .ok (.aload_n 0, 1) := by decide +kernel
theorem dX2_splicedOf_72 : decode cX2_splicedOf 72 = .ok (.putfield 59, 3) := by decide +kernel
theorem dX2_splicedOf_75 : decode cX2_splicedOf 75 = .ok (.aload_n 0, 1) := by decide +kernel
theorem dX2_splicedOf_76 : decode cX2_splicedOf 76 = .ok (.iconst 1, 1) := by decide +kernel
theorem dX2_splicedOf_77 : decode cX2_splicedOf 77 = .ok (.putfield 9, 3) := by decide +kernel
theorem dX2_splicedOf_80 : decode cX2_splicedOf 80 = .ok (.aload_n 1, 1) := by decide +kernel
theorem dX2_splicedOf_81 : decode cX2_splicedOf 81 = .ok (.iconst 1, 1) := by decide +kernel
theorem dX2_splicedOf_82 : decode cX2_splicedOf 82 = .ok (.putfield 9, 3) := by decide +kernel
theorem dX2_splicedOf_85 : decode cX2_splicedOf 85 = .ok (.aload_n 3, 1) := by decide +kernel
theorem dX2_splicedOf_86 : decode cX2_splicedOf 86 = .ok (.areturn, 1) := by decide +kernel
theorem dX2_cutOff_0 : decode cX2_cutOff 0 = .ok (.new 10, 3) := by decide +kernel
theorem dX2_cutOff_3 : decode cX2_cutOff 3 = .ok (.dup, 1) := by decide +kernel
theorem dX2_cutOff_4 : decode cX2_cutOff 4 = .ok (.aload_n 0, 1) := by decide +kernel
theorem dX2_cutOff_5 : decode cX2_cutOff 5 = .ok (.getfield 15, 3) := by decide +kernel
theorem dX2_cutOff_8 : decode cX2_cutOff 8 = .ok (.aload_n 0, 1) := by decide +kernel
theorem dX2_cutOff_9 : decode cX2_cutOff 9 = .ok (.getfield 18, 3) := by decide +kernel
theorem dX2_cutOff_12 : decode cX2_cutOff 12 = .ok (.iload_n 1, 1) := by decide +kernel
theorem dX2_cutOff_13 : decode cX2_cutOff 13 = .ok (.invokespecial 24, 3) := by decide +kernel
theorem dX2_cutOff_16 : decode cX2_cutOff 16 = .ok (.astore_n 2, 1) := by decide +kernel
theorem dX2_cutOff_17 : decode cX2_cutOff 17 = .ok (.aload_n 2, 1) := by decide +kernel
theorem dX2_cutOff_18 : decode cX2_cutOff 18 = .ok (.aload_n 0, 1) := by decide +kernel
theorem dX2_cutOff_19 : decode cX2_cutOff 19 = .ok (.getfield 33, 3) := by decide +kernel
theorem dX2_cutOff_22 : decode cX2_cutOff 22 = .ok (.putfield 33, 3) := by decide +kernel
theorem dX2_cutOff_25 : decode cX2_cutOff 25 = .ok (.aload_n 2, 1) := by decide +kernel
theorem dX2_cutOff_26 : decode cX2_cutOff 26 = .ok (.aload_n 0, 1) := by decide +kernel
theorem dX2_cutOff_27 : decode cX2_cutOff 27 = .ok (.getfield 36, 3) := by decide +kernel
theorem dX2_cutOff_30 : decode cX2_cutOff 30 = .ok (.putfield 36, 3) := by decide +kernel
theorem dX2_cutOff_33 : decode cX2_cutOff 33 = .ok (.aload_n 2, 1) := by decide +kernel
theorem dX2_cutOff_34 : decode cX2_cutOff 34 = .ok (.aload_n 0, 1) := by decide +kernel
theorem dX2_cutOff_35 : decode cX2_cutOff 35 = .ok (.getfield 42, 3) := by decide +kernel
theorem dX2_cutOff_38 : decode cX2_cutOff 38 = .ok (.putfield 42, 3) := by decide +kernel
theorem dX2_cutOff_41 : decode cX2_cutOff 41 = .ok (.aload_n 2, 1) := by decide +kernel
theorem dX2_cutOff_42 : decode cX2_cutOff 42 = .ok (.aload_n 0, 1) := by decide +kernel
theorem dX2_cutOff_43 : decode cX2_cutOff 43 = .ok (.getfield 76, 3) := by decide +kernel
theorem dX2_cutOff_46 : decode cX2_cutOff 46 = .ok (.putfield 76, 3) := by decide +kernel
theorem dX2_cutOff_49 : decode cX2_cutOff 49 = .ok (.aload_n 2, 1) := by decide +kernel
theorem dX2_cutOff_50 : decode cX2_cutOff 50 = .ok (.aload_n 0, 1) := by decide +kernel
theorem dX2_cutOff_51 : decode cX2_cutOff 51 = .ok (.putfield 59, 3) := by decide +kernel
theorem dX2_cutOff_54 : decode cX2_cutOff 54 = .ok (.aload_n 0, 1) := by decide +kernel
theorem dX2_cutOff_55 : decode cX2_cutOff 55 = .ok (.dup, 1) := by decide +kernel
theorem dX2_cutOff_56 : decode cX2_cutOff 56 = .ok (.getfield 21, 3) := by decide +kernel
theorem dX2_cutOff_59 : decode cX2_cutOff 59 = .ok (.iload_n 1, 1) := by decide +kernel
theorem dX2_cutOff_60 : decode cX2_cutOff 60 = .ok (.isub, 1) := by decide +kernel
theorem dX2_cutOff_61 : decode cX2_cutOff 61 = .ok (.putfield 21, 3) := by decide +kernel
theorem dX2_cutOff_64 : decode cX2_cutOff 64 = .ok (.aload_n 0, 1) := by decide +kernel
theorem dX2_cutOff_65 : decode cX2_cutOff 65 = .ok (.getfield 21, 3) := by decide +kernel
theorem dX2_cutOff_68 : decode cX2_cutOff 68 = .ok (.ifCond .gt 8, 3) := by decide +kernel
theorem dX2_cutOff_71 : decode cX2_cutOff 71 = .ok (.aload_n 0, 1) := by decide +kernel
theorem dX2_cutOff_72 : decode cX2_cutOff 72 = .ok (.iconst 1, 1) := by decide +kernel
theorem dX2_cutOff_73 : decode cX2_cutOff 73 = .ok (.putfield 9, 3) := by decide +kernel
theorem dX2_cutOff_76 : decode cX2_cutOff 76 = .ok (.aload_n 2, 1) := by decide +kernel
theorem dX2_cutOff_77 : decode cX2_cutOff 77 = .ok (.areturn, 1) := by decide +kernel
theorem dX2_turned_0 : decode cX2_turned 0 = .ok (.aload_n 0, 1) := by decide +kernel
theorem dX2_turned_1 : decode cX2_turned 1 = .ok (.getfield 18, 3) := by decide +kernel
theorem dX2_turned_4 : decode cX2_turned 4 = .ok (.ifCond .ne 8, 3) := by decide +kernel
theorem dX2_turned_7 : decode cX2_turned 7 = .ok (.iload_n 1, 1) := by decide +kernel
theorem dX2_turned_8 : decode cX2_turned 8 = .ok (.ineg, 1) := by decide +kernel
theorem dX2_turned_9 : decode cX2_turned 9 = .ok (.goto 4, 3) := by decide +kernel
theorem dX2_turned_12 : decode cX2_turned 12 = .ok (.iload_n 1, 1) := by decide +kernel
theorem dX2_turned_13 : decode cX2_turned 13 = .ok (.ireturn, 1) := by decide +kernel
theorem dX2_isWhole_0 : decode cX2_isWhole 0 = .ok (.aload_n 0, 1) := by decide +kernel
theorem dX2_isWhole_1 : decode cX2_isWhole 1 = .ok (.getfield 9, 3) := by decide +kernel
theorem dX2_isWhole_4 : decode cX2_isWhole 4 = .ok (.ifCond .ne 7, 3) := by decide +kernel
theorem dX2_isWhole_7 : decode cX2_isWhole 7 = .ok (.iconst 1, 1) := by decide +kernel
theorem dX2_isWhole_8 : decode cX2_isWhole 8 = .ok (.goto 4, 3) := by decide +kernel
theorem dX2_isWhole_11 : decode cX2_isWhole 11 = .ok (.iconst 0, 1) := by decide +kernel
theorem dX2_isWhole_12 : decode cX2_isWhole 12 = .ok (.ireturn, 1) := by decide +kernel
theorem dX2_isBalanced_0 : decode cX2_isBalanced 0 = .ok (.aload_n 0, 1) := by decide +kernel
theorem dX2_isBalanced_1 : decode cX2_isBalanced 1 = .ok (.getfield 42, 3) := by decide +kernel
theorem dX2_isBalanced_4 : decode cX2_isBalanced 4 = .ok (.invokestatic 79, 3) := by decide +kernel
theorem dX2_isBalanced_7 : decode cX2_isBalanced 7 = .ok (.iconst 2, 1) := by decide +kernel
theorem dX2_isBalanced_8 : decode cX2_isBalanced 8 = .ok (.aload_n 0, 1) := by decide +kernel
theorem dX2_isBalanced_9 : decode cX2_isBalanced 9 = .ok (.getfield 36, 3) := by decide +kernel
theorem dX2_isBalanced_12 : decode cX2_isBalanced 12 = .ok (.imul, 1) := by decide +kernel
theorem dX2_isBalanced_13 : decode cX2_isBalanced 13 = .ok (.if_icmp .gt 7, 3) := by decide +kernel
theorem dX2_isBalanced_16 : decode cX2_isBalanced 16 = .ok (.iconst 1, 1) := by decide +kernel
theorem dX2_isBalanced_17 : decode cX2_isBalanced 17 = .ok (.goto 4, 3) := by decide +kernel
theorem dX2_isBalanced_20 : decode cX2_isBalanced 20 = .ok (.iconst 0, 1) := by decide +kernel
theorem dX2_isBalanced_21 : decode cX2_isBalanced 21 = .ok (.ireturn, 1) := by decide +kernel
theorem dX2_canBeWorked_0 : decode cX2_canBeWorked 0 = .ok (.aload_n 0, 1) := by decide +kernel
theorem dX2_canBeWorked_1 : decode cX2_canBeWorked 1 = .ok (.invokevirtual 82, 3) := by decide +kernel
theorem dX2_canBeWorked_4 : decode cX2_canBeWorked 4 = .ok (.ifCond .eq 21, 3) := by decide +kernel
theorem dX2_canBeWorked_7 : decode cX2_canBeWorked 7 = .ok (.aload_n 0, 1) := by decide +kernel
theorem dX2_canBeWorked_8 : decode cX2_canBeWorked 8 = .ok (.getfield 15, 3) := by decide +kernel
theorem dX2_canBeWorked_11 : decode cX2_canBeWorked 11 = .ok (.ifCond .eq 10, 3) := by decide +kernel
theorem dX2_canBeWorked_14 : decode cX2_canBeWorked 14 = .ok (.aload_n 0, 1) := by decide +kernel
theorem dX2_canBeWorked_15 : decode cX2_canBeWorked 15 = .ok (.invokevirtual 86, 3) := by decide +kernel
theorem dX2_canBeWorked_18 : decode cX2_canBeWorked 18 = .ok (.ifCond .eq 7, 3) := by decide +kernel
theorem dX2_canBeWorked_21 : decode cX2_canBeWorked 21 = .ok (.iconst 1, 1) := by decide +kernel
theorem dX2_canBeWorked_22 : decode cX2_canBeWorked 22 = .ok (.goto 4, 3) := by decide +kernel
theorem dX2_canBeWorked_25 : decode cX2_canBeWorked 25 = .ok (.iconst 0, 1) := by decide +kernel
theorem dX2_canBeWorked_26 : decode cX2_canBeWorked 26 = .ok (.ireturn, 1) := by decide +kernel
theorem dX2_isOfKindAndHandOf_0 : decode cX2_isOfKindAndHandOf 0 = .ok (.aload_n 0, 1) := by decide +kernel
theorem dX2_isOfKindAndHandOf_1 : decode cX2_isOfKindAndHandOf 1 = .ok (.getfield 15, 3) := by decide +kernel
theorem dX2_isOfKindAndHandOf_4 : decode cX2_isOfKindAndHandOf 4 = .ok (.aload_n 1, 1) := by decide +kernel
theorem dX2_isOfKindAndHandOf_5 : decode cX2_isOfKindAndHandOf 5 = .ok (.getfield 15, 3) := by decide +kernel
theorem dX2_isOfKindAndHandOf_8 : decode cX2_isOfKindAndHandOf 8 = .ok (.if_icmp .ne 18, 3) := by decide +kernel
theorem dX2_isOfKindAndHandOf_11 : decode cX2_isOfKindAndHandOf 11 = .ok (.aload_n 0, 1) := by decide +kernel
theorem dX2_isOfKindAndHandOf_12 : decode cX2_isOfKindAndHandOf 12 = .ok (.getfield 18, 3) := by decide +kernel
theorem dX2_isOfKindAndHandOf_15 : decode cX2_isOfKindAndHandOf 15 = .ok (.aload_n 1, 1) := by decide +kernel
theorem dX2_isOfKindAndHandOf_16 : decode cX2_isOfKindAndHandOf 16 = .ok (.getfield 18, 3) := by decide +kernel
theorem dX2_isOfKindAndHandOf_19 : decode cX2_isOfKindAndHandOf 19 = .ok (.if_icmp .ne 7, 3) := by decide +kernel
theorem dX2_isOfKindAndHandOf_22 : decode cX2_isOfKindAndHandOf 22 = .ok (.iconst 1, 1) := by decide +kernel
theorem dX2_isOfKindAndHandOf_23 : decode cX2_isOfKindAndHandOf 23 = .ok (.goto 4, 3) := by decide +kernel
theorem dX2_isOfKindAndHandOf_26 : decode cX2_isOfKindAndHandOf 26 = .ok (.iconst 0, 1) := by decide +kernel
theorem dX2_isOfKindAndHandOf_27 : decode cX2_isOfKindAndHandOf 27 = .ok (.ireturn, 1) := by decide +kernel
theorem dX2_bears_0 : decode cX2_bears 0 = .ok (.aload_n 0, 1) := by decide +kernel
theorem dX2_bears_1 : decode cX2_bears 1 = .ok (.getfield 33, 3) := by decide +kernel
theorem dX2_bears_4 : decode cX2_bears 4 = .ok (.sipush 1000, 3) := by decide +kernel
theorem dX2_bears_7 : decode cX2_bears 7 = .ok (.aload_n 0, 1) := by decide +kernel
theorem dX2_bears_8 : decode cX2_bears 8 = .ok (.getfield 76, 3) := by decide +kernel
theorem dX2_bears_11 : decode cX2_bears 11 = .ok (.isub, 1) := by decide +kernel
theorem dX2_bears_12 : decode cX2_bears 12 = .ok (.imul, 1) := by decide +kernel
theorem dX2_bears_13 : decode cX2_bears 13 = .ok (.sipush 1000, 3) := by decide +kernel
theorem dX2_bears_16 : decode cX2_bears 16 = .ok (.idiv, 1) := by decide +kernel
theorem dX2_bears_17 : decode cX2_bears 17 = .ok (.ireturn, 1) := by decide +kernel
theorem dX2_safeLoad_0 : decode cX2_safeLoad 0 = .ok (.aload_n 0, 1) := by decide +kernel
theorem dX2_safeLoad_1 : decode cX2_safeLoad 1 = .ok (.invokevirtual 55, 3) := by decide +kernel
theorem dX2_safeLoad_4 : decode cX2_safeLoad 4 = .ok (.iconst 5, 1) := by decide +kernel
theorem dX2_safeLoad_5 : decode cX2_safeLoad 5 = .ok (.idiv, 1) := by decide +kernel
theorem dX2_safeLoad_6 : decode cX2_safeLoad 6 = .ok (.ireturn, 1) := by decide +kernel
theorem dX2_carry_0 : decode cX2_carry 0 = .ok (.aload_n 0, 1) := by decide +kernel
theorem dX2_carry_1 : decode cX2_carry 1 = .ok (.invokevirtual 55, 3) := by decide +kernel
theorem dX2_carry_4 : decode cX2_carry 4 = .ok (.istore_n 2, 1) := by decide +kernel
theorem dX2_carry_5 : decode cX2_carry 5 = .ok (.iload_n 1, 1) := by decide +kernel
theorem dX2_carry_6 : decode cX2_carry 6 = .ok (.iload_n 2, 1) := by decide +kernel
theorem dX2_carry_7 : decode cX2_carry 7 = .ok (.if_icmp .le 11, 3) := by decide +kernel
theorem dX2_carry_10 : decode cX2_carry 10 = .ok (.aload_n 0, 1) := by decide +kernel
theorem dX2_carry_11 : decode cX2_carry 11 = .ok (.iconst 2, 1) := by decide +kernel
theorem dX2_carry_12 : decode cX2_carry 12 = .ok (.putfield 9, 3) := by decide +kernel
theorem dX2_carry_15 : decode cX2_carry 15 = .ok (.goto 19, 3) := by decide +kernel
theorem dX2_carry_18 : decode cX2_carry 18 = .ok (.bipush 10, 2) := by decide +kernel
theorem dX2_carry_20 : decode cX2_carry 20 = .ok (.iload_n 1, 1) := by decide +kernel
theorem dX2_carry_21 : decode cX2_carry 21 = .ok (.imul, 1) := by decide +kernel
theorem dX2_carry_22 : decode cX2_carry 22 = .ok (.iload_n 2, 1) := by decide +kernel
theorem dX2_carry_23 : decode cX2_carry 23 = .ok (.invokestatic 89, 3) := by decide +kernel
theorem dX2_carry_26 : decode cX2_carry 26 = .ok (.istore_n 3, 1) := by decide +kernel
theorem dX2_carry_27 : decode cX2_carry 27 = .ok (.aload_n 0, 1) := by decide +kernel
theorem dX2_carry_28 : decode cX2_carry 28 = .ok (.iload_n 3, 1) := by decide +kernel
theorem dX2_carry_29 : decode cX2_carry 29 = .ok (.iload_n 3, 1) := by decide +kernel
theorem dX2_carry_30 : decode cX2_carry 30 = .ok (.imul, 1) := by decide +kernel
theorem dX2_carry_31 : decode cX2_carry 31 = .ok (.invokevirtual 92, 3) := by decide +kernel
theorem dX2_carry_34 : decode cX2_carry 34 = .ok (.return_, 1) := by decide +kernel
theorem dX2_wear_0 : decode cX2_wear 0 = .ok (.aload_n 0, 1) := by decide +kernel
theorem dX2_wear_1 : decode cX2_wear 1 = .ok (.sipush 1000, 3) := by decide +kernel
theorem dX2_wear_4 : decode cX2_wear 4 = .ok (.aload_n 0, 1) := by decide +kernel
theorem dX2_wear_5 : decode cX2_wear 5 = .ok (.getfield 76, 3) := by decide +kernel
theorem dX2_wear_8 : decode cX2_wear 8 = .ok (.iload_n 1, 1) := by decide +kernel
theorem dX2_wear_9 : decode cX2_wear 9 = .ok (.iadd, 1) := by decide +kernel
theorem dX2_wear_10 : decode cX2_wear 10 = .ok (.invokestatic 45, 3) := by decide +kernel
theorem dX2_wear_13 : decode cX2_wear 13 = .ok (.putfield 76, 3) := by decide +kernel
theorem dX2_wear_16 : decode cX2_wear 16 = .ok (.aload_n 0, 1) := by decide +kernel
theorem dX2_wear_17 : decode cX2_wear 17 = .ok (.getfield 76, 3) := by decide +kernel
theorem dX2_wear_20 : decode cX2_wear 20 = .ok (.sipush 300, 3) := by decide +kernel
theorem dX2_wear_23 : decode cX2_wear 23 = .ok (.if_icmp .lt 8, 3) := by decide +kernel
theorem dX2_wear_26 : decode cX2_wear 26 = .ok (.aload_n 0, 1) := by decide +kernel
theorem dX2_wear_27 : decode cX2_wear 27 = .ok (.iconst 3, 1) := by decide +kernel
theorem dX2_wear_28 : decode cX2_wear 28 = .ok (.putfield 9, 3) := by decide +kernel
theorem dX2_wear_31 : decode cX2_wear 31 = .ok (.return_, 1) := by decide +kernel
theorem dX2_throughCutsAndSplices_0 : decode cX2_throughCutsAndSplices 0 = .ok (.aload_n 0, 1) := by decide +kernel
theorem dX2_throughCutsAndSplices_1 : decode cX2_throughCutsAndSplices 1 = .ok (.astore_n 1, 1) := by decide +kernel
theorem dX2_throughCutsAndSplices_2 : decode cX2_throughCutsAndSplices 2 = .ok (.iconst 0, 1) := by decide +kernel
theorem dX2_throughCutsAndSplices_3 : decode cX2_throughCutsAndSplices 3 = .ok (.istore_n 2, 1) := by decide +kernel
theorem dX2_throughCutsAndSplices_4 : decode cX2_throughCutsAndSplices 4 = .ok (.iload_n 2, 1) := by decide +kernel
theorem dX2_throughCutsAndSplices_5 : decode cX2_throughCutsAndSplices 5 = .ok (.bipush 60, 2) := by decide +kernel
theorem dX2_throughCutsAndSplices_7 : decode cX2_throughCutsAndSplices 7 = .ok (.if_icmp .ge 28, 3) := by decide +kernel
theorem dX2_throughCutsAndSplices_10 : decode cX2_throughCutsAndSplices 10 = .ok (.aload_n 1, 1) := by decide +kernel
theorem dX2_throughCutsAndSplices_11 : decode cX2_throughCutsAndSplices 11 = .ok (.getfield 63, 3) := by decide +kernel
theorem dX2_throughCutsAndSplices_14 : decode cX2_throughCutsAndSplices 14 = .ok (.ifnonnull 21, 3) := by decide +kernel
theorem dX2_throughCutsAndSplices_17 : decode cX2_throughCutsAndSplices 17 = .ok (.aload_n 1, 1) := by decide +kernel
theorem dX2_throughCutsAndSplices_18 : decode cX2_throughCutsAndSplices 18 = .ok (.getfield 59, 3) := by decide +kernel
theorem dX2_throughCutsAndSplices_21 : decode cX2_throughCutsAndSplices 21 = .ok (.ifnull 14, 3) := by decide +kernel
theorem dX2_throughCutsAndSplices_24 : decode cX2_throughCutsAndSplices 24 = .ok (.aload_n 1, 1) := by decide +kernel
theorem dX2_throughCutsAndSplices_25 : decode cX2_throughCutsAndSplices 25 = .ok (.getfield 59, 3) := by decide +kernel
theorem dX2_throughCutsAndSplices_28 : decode cX2_throughCutsAndSplices 28 = .ok (.astore_n 1, 1) := by decide +kernel
theorem dX2_throughCutsAndSplices_29 : decode cX2_throughCutsAndSplices 29 = .ok (.iinc 2 1, 3) := by decide +kernel
theorem dX2_throughCutsAndSplices_32 : decode cX2_throughCutsAndSplices 32 = .ok (.goto (-28), 3) := by decide +kernel
theorem dX2_throughCutsAndSplices_35 : decode cX2_throughCutsAndSplices 35 = .ok (.aload_n 1, 1) := by decide +kernel
theorem dX2_throughCutsAndSplices_36 : decode cX2_throughCutsAndSplices 36 = .ok (.areturn, 1) := by decide +kernel
theorem dX2_told_0 : decode cX2_told 0 = .ok (.iload_n 1, 1) := by decide +kernel
theorem dX2_told_1 : decode cX2_told 1 = .ok (.tableswitch 96 0 8 #[51, 56, 61, 66, 71, 76, 81, 86, 91], 51) := by decide +kernel
theorem dX2_told_52 : decode cX2_told 52 = .ok (.aload_n 0, 1) := by decide +kernel
theorem dX2_told_53 : decode cX2_told 53 = .ok (.getfield 15, 3) := by decide +kernel
theorem dX2_told_56 : decode cX2_told 56 = .ok (.ireturn, 1) := by decide +kernel
theorem dX2_told_57 : decode cX2_told 57 = .ok (.aload_n 0, 1) := by decide +kernel
theorem dX2_told_58 : decode cX2_told 58 = .ok (.getfield 18, 3) := by decide +kernel
theorem dX2_told_61 : decode cX2_told 61 = .ok (.ireturn, 1) := by decide +kernel
theorem dX2_told_62 : decode cX2_told 62 = .ok (.aload_n 0, 1) := by decide +kernel
theorem dX2_told_63 : decode cX2_told 63 = .ok (.getfield 21, 3) := by decide +kernel
theorem dX2_told_66 : decode cX2_told 66 = .ok (.ireturn, 1) := by decide +kernel
theorem dX2_told_67 : decode cX2_told 67 = .ok (.aload_n 0, 1) := by decide +kernel
theorem dX2_told_68 : decode cX2_told 68 = .ok (.getfield 33, 3) := by decide +kernel
theorem dX2_told_71 : decode cX2_told 71 = .ok (.ireturn, 1) := by decide +kernel
theorem dX2_told_72 : decode cX2_told 72 = .ok (.aload_n 0, 1) := by decide +kernel
theorem dX2_told_73 : decode cX2_told 73 = .ok (.getfield 36, 3) := by decide +kernel
theorem dX2_told_76 : decode cX2_told 76 = .ok (.ireturn, 1) := by decide +kernel
theorem dX2_told_77 : decode cX2_told 77 = .ok (.aload_n 0, 1) := by decide +kernel
theorem dX2_told_78 : decode cX2_told 78 = .ok (.getfield 42, 3) := by decide +kernel
theorem dX2_told_81 : decode cX2_told 81 = .ok (.ireturn, 1) := by decide +kernel
theorem dX2_told_82 : decode cX2_told 82 = .ok (.aload_n 0, 1) := by decide +kernel
theorem dX2_told_83 : decode cX2_told 83 = .ok (.getfield 76, 3) := by decide +kernel
theorem dX2_told_86 : decode cX2_told 86 = .ok (.ireturn, 1) := by decide +kernel
theorem dX2_told_87 : decode cX2_told 87 = .ok (.aload_n 0, 1) := by decide +kernel
theorem dX2_told_88 : decode cX2_told 88 = .ok (.getfield 9, 3) := by decide +kernel
theorem dX2_told_91 : decode cX2_told 91 = .ok (.ireturn, 1) := by decide +kernel
theorem dX2_told_92 : decode cX2_told 92 = .ok (.aload_n 0, 1) := by decide +kernel
theorem dX2_told_93 : decode cX2_told 93 = .ok (.invokevirtual 55, 3) := by decide +kernel
theorem dX2_told_96 : decode cX2_told 96 = .ok (.ireturn, 1) := by decide +kernel
theorem dX2_told_97 : decode cX2_told 97 = .ok (.aload_n 0, 1) := by decide +kernel
theorem dX2_told_98 : decode cX2_told 98 = .ok (.invokevirtual 86, 3) := by decide +kernel
theorem dX2_told_101 : decode cX2_told 101 = .ok (.ifCond .eq 7, 3) := by decide +kernel
theorem dX2_told_104 : decode cX2_told 104 = .ok (.iconst 1, 1) := by decide +kernel
theorem dX2_told_105 : decode cX2_told 105 = .ok (.goto 4, 3) := by decide +kernel
theorem dX2_told_108 : decode cX2_told 108 = .ok (.iconst 0, 1) := by decide +kernel
theorem dX2_told_109 : decode cX2_told 109 = .ok (.ireturn, 1) := by decide +kernel
theorem dX3_init_0 : decode cX3_init 0 = .ok (.aload_n 0, 1) := by decide +kernel
theorem dX3_init_1 : decode cX3_init 1 = .ok (.invokespecial 5, 3) := by decide +kernel
theorem dX3_init_4 : decode cX3_init 4 = .ok (.aload_n 0, 1) := by decide +kernel
theorem dX3_init_5 : decode cX3_init 5 = .ok (.bipush 100, 2) := by decide +kernel
theorem dX3_init_7 : decode cX3_init 7 = .ok (.newarray .boolean, 2) := by decide +kernel
theorem dX3_init_9 : decode cX3_init 9 = .ok (.putfield 11, 3) := by decide +kernel
theorem dX3_init_12 : decode cX3_init 12 = .ok (.aload_n 0, 1) := by decide +kernel
theorem dX3_init_13 : decode cX3_init 13 = .ok (.bipush 121, 2) := by decide +kernel
theorem dX3_init_15 : decode cX3_init 15 = .ok (.newarray .boolean, 2) := by decide +kernel
theorem dX3_init_17 : decode cX3_init 17 = .ok (.putfield 15, 3) := by decide +kernel
theorem dX3_init_20 : decode cX3_init 20 = .ok (.aload_n 0, 1) := by decide +kernel
theorem dX3_init_21 : decode cX3_init 21 = .ok (.bipush 121, 2) := by decide +kernel
theorem dX3_init_23 : decode cX3_init 23 = .ok (.newarray .int, 2) := by decide +kernel
theorem dX3_init_25 : decode cX3_init 25 = .ok (.putfield 18, 3) := by decide +kernel
theorem dX3_init_28 : decode cX3_init 28 = .ok (.return_, 1) := by decide +kernel
theorem dX3_begin_0 : decode cX3_begin 0 = .ok (.iconst 0, 1) := by decide +kernel
theorem dX3_begin_1 : decode cX3_begin 1 = .ok (.istore_n 2, 1) := by decide +kernel
theorem dX3_begin_2 : decode cX3_begin 2 = .ok (.iload_n 2, 1) := by decide +kernel
theorem dX3_begin_3 : decode cX3_begin 3 = .ok (.aload_n 0, 1) := by decide +kernel
theorem dX3_begin_4 : decode cX3_begin 4 = .ok (.getfield 11, 3) := by decide +kernel
theorem dX3_begin_7 : decode cX3_begin 7 = .ok (.arraylength, 1) := by decide +kernel
theorem dX3_begin_8 : decode cX3_begin 8 = .ok (.if_icmp .ge 20, 3) := by decide +kernel
theorem dX3_begin_11 : decode cX3_begin 11 = .ok (.aload_n 0, 1) := by decide +kernel
theorem dX3_begin_12 : decode cX3_begin 12 = .ok (.getfield 11, 3) := by decide +kernel
theorem dX3_begin_15 : decode cX3_begin 15 = .ok (.iload_n 2, 1) := by decide +kernel
theorem dX3_begin_16 : decode cX3_begin 16 = .ok (.aload_n 1, 1) := by decide +kernel
theorem dX3_begin_17 : decode cX3_begin 17 = .ok (.iload_n 2, 1) := by decide +kernel
theorem dX3_begin_18 : decode cX3_begin 18 = .ok (.invokevirtual 22, 3) := by decide +kernel
theorem dX3_begin_21 : decode cX3_begin 21 = .ok (.bastore, 1) := by decide +kernel
theorem dX3_begin_22 : decode cX3_begin 22 = .ok (.iinc 2 1, 3) := by decide +kernel
theorem dX3_begin_25 : decode cX3_begin 25 = .ok (.goto (-23), 3) := by decide +kernel
theorem dX3_begin_28 : decode cX3_begin 28 = .ok (.iconst 0, 1) := by decide +kernel
theorem dX3_begin_29 : decode cX3_begin 29 = .ok (.istore_n 2, 1) := by decide +kernel
theorem dX3_begin_30 : decode cX3_begin 30 = .ok (.iload_n 2, 1) := by decide +kernel
theorem dX3_begin_31 : decode cX3_begin 31 = .ok (.aload_n 0, 1) := by decide +kernel
theorem dX3_begin_32 : decode cX3_begin 32 = .ok (.getfield 15, 3) := by decide +kernel
theorem dX3_begin_35 : decode cX3_begin 35 = .ok (.arraylength, 1) := by decide +kernel
theorem dX3_begin_36 : decode cX3_begin 36 = .ok (.if_icmp .ge 16, 3) := by decide +kernel
theorem dX3_begin_39 : decode cX3_begin 39 = .ok (.aload_n 0, 1) := by decide +kernel
theorem dX3_begin_40 : decode cX3_begin 40 = .ok (.getfield 15, 3) := by decide +kernel
theorem dX3_begin_43 : decode cX3_begin 43 = .ok (.iload_n 2, 1) := by decide +kernel
theorem dX3_begin_44 : decode cX3_begin 44 = .ok (.iconst 0, 1) := by decide +kernel
theorem dX3_begin_45 : decode cX3_begin 45 = .ok (.bastore, 1) := by decide +kernel
theorem dX3_begin_46 : decode cX3_begin 46 = .ok (.iinc 2 1, 3) := by decide +kernel
theorem dX3_begin_49 : decode cX3_begin 49 = .ok (.goto (-19), 3) := by decide +kernel
theorem dX3_begin_52 : decode cX3_begin 52 = .ok (.return_, 1) := by decide +kernel
theorem dX3_barOn_0 : decode cX3_barOn 0 = .ok (.iload_n 0, 1) := by decide +kernel
theorem dX3_barOn_1 : decode cX3_barOn 1 = .ok (.bipush 11, 2) := by decide +kernel
theorem dX3_barOn_3 : decode cX3_barOn 3 = .ok (.idiv, 1) := by decide +kernel
theorem dX3_barOn_4 : decode cX3_barOn 4 = .ok (.iload_n 1, 1) := by decide +kernel
theorem dX3_barOn_5 : decode cX3_barOn 5 = .ok (.iconst 2, 1) := by decide +kernel
theorem dX3_barOn_6 : decode cX3_barOn 6 = .ok (.if_icmp .ge 7, 3) := by decide +kernel
theorem dX3_barOn_9 : decode cX3_barOn 9 = .ok (.iconst 1, 1) := by decide +kernel
theorem dX3_barOn_10 : decode cX3_barOn 10 = .ok (.goto 4, 3) := by decide +kernel
theorem dX3_barOn_13 : decode cX3_barOn 13 = .ok (.iconst 0, 1) := by decide +kernel
theorem dX3_barOn_14 : decode cX3_barOn 14 = .ok (.isub, 1) := by decide +kernel
theorem dX3_barOn_15 : decode cX3_barOn 15 = .ok (.istore_n 2, 1) := by decide +kernel
theorem dX3_barOn_16 : decode cX3_barOn 16 = .ok (.iload_n 0, 1) := by decide +kernel
theorem dX3_barOn_17 : decode cX3_barOn 17 = .ok (.bipush 11, 2) := by decide +kernel
theorem dX3_barOn_19 : decode cX3_barOn 19 = .ok (.irem, 1) := by decide +kernel
theorem dX3_barOn_20 : decode cX3_barOn 20 = .ok (.iload_n 1, 1) := by decide +kernel
theorem dX3_barOn_21 : decode cX3_barOn 21 = .ok (.iconst 2, 1) := by decide +kernel
theorem dX3_barOn_22 : decode cX3_barOn 22 = .ok (.irem, 1) := by decide +kernel
theorem dX3_barOn_23 : decode cX3_barOn 23 = .ok (.ifCond .ne 7, 3) := by decide +kernel
theorem dX3_barOn_26 : decode cX3_barOn 26 = .ok (.iconst 1, 1) := by decide +kernel
theorem dX3_barOn_27 : decode cX3_barOn 27 = .ok (.goto 4, 3) := by decide +kernel
theorem dX3_barOn_30 : decode cX3_barOn 30 = .ok (.iconst 0, 1) := by decide +kernel
theorem dX3_barOn_31 : decode cX3_barOn 31 = .ok (.isub, 1) := by decide +kernel
theorem dX3_barOn_32 : decode cX3_barOn 32 = .ok (.istore_n 3, 1) := by decide +kernel
theorem dX3_barOn_33 : decode cX3_barOn 33 = .ok (.iload_n 2, 1) := by decide +kernel
theorem dX3_barOn_34 : decode cX3_barOn 34 = .ok (.ifCond .lt 23, 3) := by decide +kernel
theorem dX3_barOn_37 : decode cX3_barOn 37 = .ok (.iload_n 2, 1) := by decide +kernel
theorem dX3_barOn_38 : decode cX3_barOn 38 = .ok (.bipush 10, 2) := by decide +kernel
theorem dX3_barOn_40 : decode cX3_barOn 40 = .ok (.if_icmp .ge 17, 3) := by decide +kernel
theorem dX3_barOn_43 : decode cX3_barOn 43 = .ok (.iload_n 3, 1) := by decide +kernel
theorem dX3_barOn_44 : decode cX3_barOn 44 = .ok (.ifCond .lt 13, 3) := by decide +kernel
theorem dX3_barOn_47 : decode cX3_barOn 47 = .ok (.iload_n 3, 1) := by decide +kernel
theorem dX3_barOn_48 : decode cX3_barOn 48 = .ok (.bipush 10, 2) := by decide +kernel
theorem dX3_barOn_50 : decode cX3_barOn 50 = .ok (.if_icmp .ge 7, 3) := by decide +kernel
theorem dX3_barOn_53 : decode cX3_barOn 53 = .ok (.iconst 1, 1) := by decide +kernel
theorem dX3_barOn_54 : decode cX3_barOn 54 = .ok (.goto 4, 3) := by decide +kernel
theorem dX3_barOn_57 : decode cX3_barOn 57 = .ok (.iconst 0, 1) := by decide +kernel
theorem dX3_barOn_58 : decode cX3_barOn 58 = .ok (.istore 4, 2) := by decide +kernel
theorem dX3_barOn_60 : decode cX3_barOn 60 = .ok (.iload 4, 2) := by decide +kernel
theorem dX3_barOn_62 : decode cX3_barOn 62 = .ok (.ifCond .eq 12, 3) := by decide +kernel
theorem dX3_barOn_65 : decode cX3_barOn 65 = .ok (.iload_n 2, 1) := by decide +kernel
theorem dX3_barOn_66 : decode cX3_barOn 66 = .ok (.bipush 10, 2) := by decide +kernel
theorem dX3_barOn_68 : decode cX3_barOn 68 = .ok (.imul, 1) := by decide +kernel
theorem dX3_barOn_69 : decode cX3_barOn 69 = .ok (.iload_n 3, 1) := by decide +kernel
theorem dX3_barOn_70 : decode cX3_barOn 70 = .ok (.iadd, 1) := by decide +kernel
theorem dX3_barOn_71 : decode cX3_barOn 71 = .ok (.goto 4, 3) := by decide +kernel
theorem dX3_barOn_74 : decode cX3_barOn 74 = .ok (.iconst (-1), 1) := by decide +kernel
theorem dX3_barOn_75 : decode cX3_barOn 75 = .ok (.ireturn, 1) := by decide +kernel
theorem dX3_knotOn_0 : decode cX3_knotOn 0 = .ok (.iload_n 0, 1) := by decide +kernel
theorem dX3_knotOn_1 : decode cX3_knotOn 1 = .ok (.iload_n 1, 1) := by decide +kernel
theorem dX3_knotOn_2 : decode cX3_knotOn 2 = .ok (.iconst 2, 1) := by decide +kernel
theorem dX3_knotOn_3 : decode cX3_knotOn 3 = .ok (.if_icmp .ge 8, 3) := by decide +kernel
theorem dX3_knotOn_6 : decode cX3_knotOn 6 = .ok (.bipush (-11), 2) := by decide +kernel
theorem dX3_knotOn_8 : decode cX3_knotOn 8 = .ok (.goto 5, 3) := by decide +kernel
theorem dX3_knotOn_11 : decode cX3_knotOn 11 = .ok (.bipush 11, 2) := by decide +kernel
theorem dX3_knotOn_13 : decode cX3_knotOn 13 = .ok (.iadd, 1) := by decide +kernel
theorem dX3_knotOn_14 : decode cX3_knotOn 14 = .ok (.iload_n 1, 1) := by decide +kernel
theorem dX3_knotOn_15 : decode cX3_knotOn 15 = .ok (.iconst 2, 1) := by decide +kernel
theorem dX3_knotOn_16 : decode cX3_knotOn 16 = .ok (.irem, 1) := by decide +kernel
theorem dX3_knotOn_17 : decode cX3_knotOn 17 = .ok (.ifCond .ne 7, 3) := by decide +kernel
theorem dX3_knotOn_20 : decode cX3_knotOn 20 = .ok (.iconst (-1), 1) := by decide +kernel
theorem dX3_knotOn_21 : decode cX3_knotOn 21 = .ok (.goto 4, 3) := by decide +kernel
theorem dX3_knotOn_24 : decode cX3_knotOn 24 = .ok (.iconst 1, 1) := by decide +kernel
theorem dX3_knotOn_25 : decode cX3_knotOn 25 = .ok (.iadd, 1) := by decide +kernel
theorem dX3_knotOn_26 : decode cX3_knotOn 26 = .ok (.ireturn, 1) := by decide +kernel
theorem dX3_isBarLeft_0 : decode cX3_isBarLeft 0 = .ok (.iload_n 1, 1) := by decide +kernel
theorem dX3_isBarLeft_1 : decode cX3_isBarLeft 1 = .ok (.ifCond .lt 25, 3) := by decide +kernel
theorem dX3_isBarLeft_4 : decode cX3_isBarLeft 4 = .ok (.iload_n 1, 1) := by decide +kernel
theorem dX3_isBarLeft_5 : decode cX3_isBarLeft 5 = .ok (.aload_n 0, 1) := by decide +kernel
theorem dX3_isBarLeft_6 : decode cX3_isBarLeft 6 = .ok (.getfield 11, 3) := by decide +kernel
theorem dX3_isBarLeft_9 : decode cX3_isBarLeft 9 = .ok (.arraylength, 1) := by decide +kernel
theorem dX3_isBarLeft_10 : decode cX3_isBarLeft 10 = .ok (.if_icmp .ge 16, 3) := by decide +kernel
theorem dX3_isBarLeft_13 : decode cX3_isBarLeft 13 = .ok (.aload_n 0, 1) := by decide +kernel
theorem dX3_isBarLeft_14 : decode cX3_isBarLeft 14 = .ok (.getfield 11, 3) := by decide +kernel
theorem dX3_isBarLeft_17 : decode cX3_isBarLeft 17 = .ok (.iload_n 1, 1) := by decide +kernel
theorem dX3_isBarLeft_18 : decode cX3_isBarLeft 18 = .ok (.baload, 1) := by decide +kernel
theorem dX3_isBarLeft_19 : decode cX3_isBarLeft 19 = .ok (.ifCond .eq 7, 3) := by decide +kernel
theorem dX3_isBarLeft_22 : decode cX3_isBarLeft 22 = .ok (.iconst 1, 1) := by decide +kernel
theorem dX3_isBarLeft_23 : decode cX3_isBarLeft 23 = .ok (.goto 4, 3) := by decide +kernel
theorem dX3_isBarLeft_26 : decode cX3_isBarLeft 26 = .ok (.iconst 0, 1) := by decide +kernel
theorem dX3_isBarLeft_27 : decode cX3_isBarLeft 27 = .ok (.ireturn, 1) := by decide +kernel
theorem dX3_isReachedKnot_0 : decode cX3_isReachedKnot 0 = .ok (.iload_n 1, 1) := by decide +kernel
theorem dX3_isReachedKnot_1 : decode cX3_isReachedKnot 1 = .ok (.ifCond .lt 25, 3) := by decide +kernel
theorem dX3_isReachedKnot_4 : decode cX3_isReachedKnot 4 = .ok (.iload_n 1, 1) := by decide +kernel
theorem dX3_isReachedKnot_5 : decode cX3_isReachedKnot 5 = .ok (.aload_n 0, 1) := by decide +kernel
theorem dX3_isReachedKnot_6 : decode cX3_isReachedKnot 6 = .ok (.getfield 15, 3) := by decide +kernel
theorem dX3_isReachedKnot_9 : decode cX3_isReachedKnot 9 = .ok (.arraylength, 1) := by decide +kernel
theorem dX3_isReachedKnot_10 : decode cX3_isReachedKnot 10 = .ok (.if_icmp .ge 16, 3) := by decide +kernel
theorem dX3_isReachedKnot_13 : decode cX3_isReachedKnot 13 = .ok (.aload_n 0, 1) := by decide +kernel
theorem dX3_isReachedKnot_14 : decode cX3_isReachedKnot 14 = .ok (.getfield 15, 3) := by decide +kernel
theorem dX3_isReachedKnot_17 : decode cX3_isReachedKnot 17 = .ok (.iload_n 1, 1) := by decide +kernel
theorem dX3_isReachedKnot_18 : decode cX3_isReachedKnot 18 = .ok (.baload, 1) := by decide +kernel
theorem dX3_isReachedKnot_19 : decode cX3_isReachedKnot 19 = .ok (.ifCond .eq 7, 3) := by decide +kernel
theorem dX3_isReachedKnot_22 : decode cX3_isReachedKnot 22 = .ok (.iconst 1, 1) := by decide +kernel
theorem dX3_isReachedKnot_23 : decode cX3_isReachedKnot 23 = .ok (.goto 4, 3) := by decide +kernel
theorem dX3_isReachedKnot_26 : decode cX3_isReachedKnot 26 = .ok (.iconst 0, 1) := by decide +kernel
theorem dX3_isReachedKnot_27 : decode cX3_isReachedKnot 27 = .ok (.ireturn, 1) := by decide +kernel
theorem dX3_reach_0 : decode cX3_reach 0 = .ok (.iload_n 1, 1) := by decide +kernel
theorem dX3_reach_1 : decode cX3_reach 1 = .ok (.ifCond .lt 19, 3) := by decide +kernel
theorem dX3_reach_4 : decode cX3_reach 4 = .ok (.iload_n 1, 1) := by decide +kernel
theorem dX3_reach_5 : decode cX3_reach 5 = .ok (.aload_n 0, 1) := by decide +kernel
theorem dX3_reach_6 : decode cX3_reach 6 = .ok (.getfield 15, 3) := by decide +kernel
theorem dX3_reach_9 : decode cX3_reach 9 = .ok (.arraylength, 1) := by decide +kernel
theorem dX3_reach_10 : decode cX3_reach 10 = .ok (.if_icmp .ge 10, 3) := by decide +kernel
theorem dX3_reach_13 : decode cX3_reach 13 = .ok (.aload_n 0, 1) := by decide +kernel
theorem dX3_reach_14 : decode cX3_reach 14 = .ok (.getfield 15, 3) := by decide +kernel
theorem dX3_reach_17 : decode cX3_reach 17 = .ok (.iload_n 1, 1) := by decide +kernel
theorem dX3_reach_18 : decode cX3_reach 18 = .ok (.iconst 1, 1) := by decide +kernel
theorem dX3_reach_19 : decode cX3_reach 19 = .ok (.bastore, 1) := by decide +kernel
theorem dX3_reach_20 : decode cX3_reach 20 = .ok (.return_, 1) := by decide +kernel
theorem dX3_barsLeftAt_0 : decode cX3_barsLeftAt 0 = .ok (.iconst 0, 1) := by decide +kernel
theorem dX3_barsLeftAt_1 : decode cX3_barsLeftAt 1 = .ok (.istore_n 2, 1) := by decide +kernel
theorem dX3_barsLeftAt_2 : decode cX3_barsLeftAt 2 = .ok (.iconst 0, 1) := by decide +kernel
theorem dX3_barsLeftAt_3 : decode cX3_barsLeftAt 3 = .ok (.istore_n 3, 1) := by decide +kernel
theorem dX3_barsLeftAt_4 : decode cX3_barsLeftAt 4 = .ok (.iload_n 3, 1) := by decide +kernel
theorem dX3_barsLeftAt_5 : decode cX3_barsLeftAt 5 = .ok (.iconst 4, 1) := by decide +kernel
theorem dX3_barsLeftAt_6 : decode cX3_barsLeftAt 6 = .ok (.if_icmp .ge 29, 3) := by decide +kernel
theorem dX3_barsLeftAt_9 : decode cX3_barsLeftAt 9 = .ok (.iload_n 2, 1) := by decide +kernel
theorem dX3_barsLeftAt_10 : decode cX3_barsLeftAt 10 = .ok (.aload_n 0, 1) := by decide +kernel
theorem dX3_barsLeftAt_11 : decode cX3_barsLeftAt 11 = .ok (.iload_n 1, 1) := by decide +kernel
theorem dX3_barsLeftAt_12 : decode cX3_barsLeftAt 12 = .ok (.iload_n 3, 1) := by decide +kernel
theorem dX3_barsLeftAt_13 : decode cX3_barsLeftAt 13 = .ok (.invokestatic 28, 3) := by decide +kernel
theorem dX3_barsLeftAt_16 : decode cX3_barsLeftAt 16 = .ok (.invokevirtual 32, 3) := by decide +kernel
theorem dX3_barsLeftAt_19 : decode cX3_barsLeftAt 19 = .ok (.ifCond .eq 7, 3) := by decide +kernel
theorem dX3_barsLeftAt_22 : decode cX3_barsLeftAt 22 = .ok (.iconst 1, 1) := by decide +kernel
theorem dX3_barsLeftAt_23 : decode cX3_barsLeftAt 23 = .ok (.goto 4, 3) := by decide +kernel
theorem dX3_barsLeftAt_26 : decode cX3_barsLeftAt 26 = .ok (.iconst 0, 1) := by decide +kernel
theorem dX3_barsLeftAt_27 : decode cX3_barsLeftAt 27 = .ok (.iadd, 1) := by decide +kernel
theorem dX3_barsLeftAt_28 : decode cX3_barsLeftAt 28 = .ok (.istore_n 2, 1) := by decide +kernel
theorem dX3_barsLeftAt_29 : decode cX3_barsLeftAt 29 = .ok (.iinc 3 1, 3) := by decide +kernel
theorem dX3_barsLeftAt_32 : decode cX3_barsLeftAt 32 = .ok (.goto (-28), 3) := by decide +kernel
theorem dX3_barsLeftAt_35 : decode cX3_barsLeftAt 35 = .ok (.iload_n 2, 1) := by decide +kernel
theorem dX3_barsLeftAt_36 : decode cX3_barsLeftAt 36 = .ok (.ireturn, 1) := by decide +kernel
theorem dX3_fewestTwines_0 : decode cX3_fewestTwines 0 = .ok (.aload_n 0, 1) := by decide +kernel
theorem dX3_fewestTwines_1 : decode cX3_fewestTwines 1 = .ok (.aload_n 1, 1) := by decide +kernel
theorem dX3_fewestTwines_2 : decode cX3_fewestTwines 2 = .ok (.invokevirtual 35, 3) := by decide +kernel
theorem dX3_fewestTwines_5 : decode cX3_fewestTwines 5 = .ok (.iconst 0, 1) := by decide +kernel
theorem dX3_fewestTwines_6 : decode cX3_fewestTwines 6 = .ok (.istore_n 2, 1) := by decide +kernel
theorem dX3_fewestTwines_7 : decode cX3_fewestTwines 7 = .ok (.iconst 0, 1) := by decide +kernel
theorem dX3_fewestTwines_8 : decode cX3_fewestTwines 8 = .ok (.istore_n 3, 1) := by decide +kernel
theorem dX3_fewestTwines_9 : decode cX3_fewestTwines 9 = .ok (.iload_n 3, 1) := by decide +kernel
theorem dX3_fewestTwines_10 : decode cX3_fewestTwines 10 = .ok (.bipush 121, 2) := by decide +kernel
theorem dX3_fewestTwines_12 : decode cX3_fewestTwines 12 = .ok (.if_icmp .ge 39, 3) := by decide +kernel
theorem dX3_fewestTwines_15 : decode cX3_fewestTwines 15 = .ok (.aload_n 0, 1) := by decide +kernel
theorem dX3_fewestTwines_16 : decode cX3_fewestTwines 16 = .ok (.iload_n 3, 1) := by decide +kernel
theorem dX3_fewestTwines_17 : decode cX3_fewestTwines 17 = .ok (.invokevirtual 39, 3) := by decide +kernel
theorem dX3_fewestTwines_20 : decode cX3_fewestTwines 20 = .ok (.ifCond .ne 25, 3) := by decide +kernel
theorem dX3_fewestTwines_23 : decode cX3_fewestTwines 23 = .ok (.aload_n 0, 1) := by decide +kernel
theorem dX3_fewestTwines_24 : decode cX3_fewestTwines 24 = .ok (.iload_n 3, 1) := by decide +kernel
theorem dX3_fewestTwines_25 : decode cX3_fewestTwines 25 = .ok (.invokevirtual 42, 3) := by decide +kernel
theorem dX3_fewestTwines_28 : decode cX3_fewestTwines 28 = .ok (.ifCond .le 17, 3) := by decide +kernel
theorem dX3_fewestTwines_31 : decode cX3_fewestTwines 31 = .ok (.iload_n 2, 1) := by decide +kernel
theorem dX3_fewestTwines_32 : decode cX3_fewestTwines 32 = .ok (.iconst 1, 1) := by decide +kernel
theorem dX3_fewestTwines_33 : decode cX3_fewestTwines 33 = .ok (.aload_n 0, 1) := by decide +kernel
theorem dX3_fewestTwines_34 : decode cX3_fewestTwines 34 = .ok (.iload_n 3, 1) := by decide +kernel
theorem dX3_fewestTwines_35 : decode cX3_fewestTwines 35 = .ok (.invokevirtual 46, 3) := by decide +kernel
theorem dX3_fewestTwines_38 : decode cX3_fewestTwines 38 = .ok (.iconst 2, 1) := by decide +kernel
theorem dX3_fewestTwines_39 : decode cX3_fewestTwines 39 = .ok (.idiv, 1) := by decide +kernel
theorem dX3_fewestTwines_40 : decode cX3_fewestTwines 40 = .ok (.invokestatic 49, 3) := by decide +kernel
theorem dX3_fewestTwines_43 : decode cX3_fewestTwines 43 = .ok (.iadd, 1) := by decide +kernel
theorem dX3_fewestTwines_44 : decode cX3_fewestTwines 44 = .ok (.istore_n 2, 1) := by decide +kernel
theorem dX3_fewestTwines_45 : decode cX3_fewestTwines 45 = .ok (.iinc 3 2, 3) := by decide +kernel
theorem dX3_fewestTwines_48 : decode cX3_fewestTwines 48 = .ok (.goto (-39), 3) := by decide +kernel
theorem dX3_fewestTwines_51 : decode cX3_fewestTwines 51 = .ok (.iload_n 2, 1) := by decide +kernel
theorem dX3_fewestTwines_52 : decode cX3_fewestTwines 52 = .ok (.ireturn, 1) := by decide +kernel
theorem dX3_oddKnotsJoinedTo_0 : decode cX3_oddKnotsJoinedTo 0 = .ok (.iconst 0, 1) := by decide +kernel
theorem dX3_oddKnotsJoinedTo_1 : decode cX3_oddKnotsJoinedTo 1 = .ok (.istore_n 2, 1) := by decide +kernel
theorem dX3_oddKnotsJoinedTo_2 : decode cX3_oddKnotsJoinedTo 2 = .ok (.aload_n 0, 1) := by decide +kernel
theorem dX3_oddKnotsJoinedTo_3 : decode cX3_oddKnotsJoinedTo 3 = .ok (.iload_n 1, 1) := by decide +kernel
theorem dX3_oddKnotsJoinedTo_4 : decode cX3_oddKnotsJoinedTo 4 = .ok (.iconst 0, 1) := by decide +kernel
theorem dX3_oddKnotsJoinedTo_5 : decode cX3_oddKnotsJoinedTo 5 = .ok (.invokevirtual 54, 3) := by decide +kernel
theorem dX3_oddKnotsJoinedTo_8 : decode cX3_oddKnotsJoinedTo 8 = .ok (.istore_n 3, 1) := by decide +kernel
theorem dX3_oddKnotsJoinedTo_9 : decode cX3_oddKnotsJoinedTo 9 = .ok (.iconst 0, 1) := by decide +kernel
theorem dX3_oddKnotsJoinedTo_10 : decode cX3_oddKnotsJoinedTo 10 = .ok (.istore 4, 2) := by decide +kernel
theorem dX3_oddKnotsJoinedTo_12 : decode cX3_oddKnotsJoinedTo 12 = .ok (.iload 4, 2) := by decide +kernel
theorem dX3_oddKnotsJoinedTo_14 : decode cX3_oddKnotsJoinedTo 14 = .ok (.iload_n 3, 1) := by decide +kernel
theorem dX3_oddKnotsJoinedTo_15 : decode cX3_oddKnotsJoinedTo 15 = .ok (.if_icmp .ge 95, 3) := by decide +kernel
theorem dX3_oddKnotsJoinedTo_18 : decode cX3_oddKnotsJoinedTo 18 = .ok (.iload 4, 2) := by decide +kernel
theorem dX3_oddKnotsJoinedTo_20 : decode cX3_oddKnotsJoinedTo 20 = .ok (.aload_n 0, 1) := by decide +kernel
theorem dX3_oddKnotsJoinedTo_21 : decode cX3_oddKnotsJoinedTo 21 = .ok (.getfield 18, 3) := by decide +kernel
theorem dX3_oddKnotsJoinedTo_24 : decode cX3_oddKnotsJoinedTo 24 = .ok (.arraylength, 1) := by decide +kernel
theorem dX3_oddKnotsJoinedTo_25 : decode cX3_oddKnotsJoinedTo 25 = .ok (.if_icmp .ge 85, 3) := by decide +kernel
theorem dX3_oddKnotsJoinedTo_28 : decode cX3_oddKnotsJoinedTo 28 = .ok (.aload_n 0, 1) := by decide +kernel
theorem dX3_oddKnotsJoinedTo_29 : decode cX3_oddKnotsJoinedTo 29 = .ok (.getfield 18, 3) := by decide +kernel
theorem dX3_oddKnotsJoinedTo_32 : decode cX3_oddKnotsJoinedTo 32 = .ok (.iload 4, 2) := by decide +kernel
theorem dX3_oddKnotsJoinedTo_34 : decode cX3_oddKnotsJoinedTo 34 = .ok (.iaload, 1) := by decide +kernel
theorem dX3_oddKnotsJoinedTo_35 : decode cX3_oddKnotsJoinedTo 35 = .ok (.istore 5, 2) := by decide +kernel
theorem dX3_oddKnotsJoinedTo_37 : decode cX3_oddKnotsJoinedTo 37 = .ok (.iload_n 2, 1) := by decide +kernel
theorem dX3_oddKnotsJoinedTo_38 : decode cX3_oddKnotsJoinedTo 38 = .ok (.aload_n 0, 1) := by decide +kernel
theorem dX3_oddKnotsJoinedTo_39 : decode cX3_oddKnotsJoinedTo 39 = .ok (.iload 5, 2) := by decide +kernel
theorem dX3_oddKnotsJoinedTo_41 : decode cX3_oddKnotsJoinedTo 41 = .ok (.invokevirtual 42, 3) := by decide +kernel
theorem dX3_oddKnotsJoinedTo_44 : decode cX3_oddKnotsJoinedTo 44 = .ok (.iconst 2, 1) := by decide +kernel
theorem dX3_oddKnotsJoinedTo_45 : decode cX3_oddKnotsJoinedTo 45 = .ok (.irem, 1) := by decide +kernel
theorem dX3_oddKnotsJoinedTo_46 : decode cX3_oddKnotsJoinedTo 46 = .ok (.iadd, 1) := by decide +kernel
theorem dX3_oddKnotsJoinedTo_47 : decode cX3_oddKnotsJoinedTo 47 = .ok (.istore_n 2, 1) := by decide +kernel
theorem dX3_oddKnotsJoinedTo_48 : decode cX3_oddKnotsJoinedTo 48 = .ok (.iconst 0, 1) := by decide +kernel
theorem dX3_oddKnotsJoinedTo_49 : decode cX3_oddKnotsJoinedTo 49 = .ok (.istore 6, 2) := by decide +kernel
theorem dX3_oddKnotsJoinedTo_51 : decode cX3_oddKnotsJoinedTo 51 = .ok (.iload 6, 2) := by decide +kernel
theorem dX3_oddKnotsJoinedTo_53 : decode cX3_oddKnotsJoinedTo 53 = .ok (.iconst 4, 1) := by decide +kernel
theorem dX3_oddKnotsJoinedTo_54 : decode cX3_oddKnotsJoinedTo 54 = .ok (.if_icmp .ge 50, 3) := by decide +kernel
theorem dX3_oddKnotsJoinedTo_57 : decode cX3_oddKnotsJoinedTo 57 = .ok (.aload_n 0, 1) := by decide +kernel
theorem dX3_oddKnotsJoinedTo_58 : decode cX3_oddKnotsJoinedTo 58 = .ok (.iload 5, 2) := by decide +kernel
theorem dX3_oddKnotsJoinedTo_60 : decode cX3_oddKnotsJoinedTo 60 = .ok (.iload 6, 2) := by decide +kernel
theorem dX3_oddKnotsJoinedTo_62 : decode cX3_oddKnotsJoinedTo 62 = .ok (.invokestatic 28, 3) := by decide +kernel
theorem dX3_oddKnotsJoinedTo_65 : decode cX3_oddKnotsJoinedTo 65 = .ok (.invokevirtual 32, 3) := by decide +kernel
theorem dX3_oddKnotsJoinedTo_68 : decode cX3_oddKnotsJoinedTo 68 = .ok (.ifCond .eq 30, 3) := by decide +kernel
theorem dX3_oddKnotsJoinedTo_71 : decode cX3_oddKnotsJoinedTo 71 = .ok (.aload_n 0, 1) := by decide +kernel
theorem dX3_oddKnotsJoinedTo_72 : decode cX3_oddKnotsJoinedTo 72 = .ok (.iload 5, 2) := by decide +kernel
theorem dX3_oddKnotsJoinedTo_74 : decode cX3_oddKnotsJoinedTo 74 = .ok (.iload 6, 2) := by decide +kernel
theorem dX3_oddKnotsJoinedTo_76 : decode cX3_oddKnotsJoinedTo 76 = .ok (.invokestatic 57, 3) := by decide +kernel
theorem dX3_oddKnotsJoinedTo_79 : decode cX3_oddKnotsJoinedTo 79 = .ok (.invokevirtual 39, 3) := by decide +kernel
theorem dX3_oddKnotsJoinedTo_82 : decode cX3_oddKnotsJoinedTo 82 = .ok (.ifCond .ne 16, 3) := by decide +kernel
theorem dX3_oddKnotsJoinedTo_85 : decode cX3_oddKnotsJoinedTo 85 = .ok (.aload_n 0, 1) := by decide +kernel
theorem dX3_oddKnotsJoinedTo_86 : decode cX3_oddKnotsJoinedTo 86 = .ok (.iload 5, 2) := by decide +kernel
theorem dX3_oddKnotsJoinedTo_88 : decode cX3_oddKnotsJoinedTo 88 = .ok (.iload 6, 2) := by decide +kernel
theorem dX3_oddKnotsJoinedTo_90 : decode cX3_oddKnotsJoinedTo 90 = .ok (.invokestatic 57, 3) := by decide +kernel
theorem dX3_oddKnotsJoinedTo_93 : decode cX3_oddKnotsJoinedTo 93 = .ok (.iload_n 3, 1) := by decide +kernel
theorem dX3_oddKnotsJoinedTo_94 : decode cX3_oddKnotsJoinedTo 94 = .ok (.invokevirtual 54, 3) := by decide +kernel
theorem dX3_oddKnotsJoinedTo_97 : decode cX3_oddKnotsJoinedTo 97 = .ok (.istore_n 3, 1) := by decide +kernel
theorem dX3_oddKnotsJoinedTo_98 : decode cX3_oddKnotsJoinedTo 98 = .ok (.iinc 6 1, 3) := by decide +kernel
theorem dX3_oddKnotsJoinedTo_101 : decode cX3_oddKnotsJoinedTo 101 = .ok (.goto (-50), 3) := by decide +kernel
theorem dX3_oddKnotsJoinedTo_104 : decode cX3_oddKnotsJoinedTo 104 = .ok (.iinc 4 1, 3) := by decide +kernel
theorem dX3_oddKnotsJoinedTo_107 : decode cX3_oddKnotsJoinedTo 107 = .ok (.goto (-95), 3) := by decide +kernel
theorem dX3_oddKnotsJoinedTo_110 : decode cX3_oddKnotsJoinedTo 110 = .ok (.iload_n 2, 1) := by decide +kernel
theorem dX3_oddKnotsJoinedTo_111 : decode cX3_oddKnotsJoinedTo 111 = .ok (.ireturn, 1) := by decide +kernel
theorem dX3_queueKnot_0 : decode cX3_queueKnot 0 = .ok (.aload_n 0, 1) := by decide +kernel
theorem dX3_queueKnot_1 : decode cX3_queueKnot 1 = .ok (.iload_n 1, 1) := by decide +kernel
theorem dX3_queueKnot_2 : decode cX3_queueKnot 2 = .ok (.invokevirtual 60, 3) := by decide +kernel
theorem dX3_queueKnot_5 : decode cX3_queueKnot 5 = .ok (.iload_n 2, 1) := by decide +kernel
theorem dX3_queueKnot_6 : decode cX3_queueKnot 6 = .ok (.ifCond .lt 12, 3) := by decide +kernel
theorem dX3_queueKnot_9 : decode cX3_queueKnot 9 = .ok (.iload_n 2, 1) := by decide +kernel
theorem dX3_queueKnot_10 : decode cX3_queueKnot 10 = .ok (.aload_n 0, 1) := by decide +kernel
theorem dX3_queueKnot_11 : decode cX3_queueKnot 11 = .ok (.getfield 18, 3) := by decide +kernel
theorem dX3_queueKnot_14 : decode cX3_queueKnot 14 = .ok (.arraylength, 1) := by decide +kernel
theorem dX3_queueKnot_15 : decode cX3_queueKnot 15 = .ok (.if_icmp .lt 5, 3) := by decide +kernel
theorem dX3_queueKnot_18 : decode cX3_queueKnot 18 = .ok (.iload_n 2, 1) := by decide +kernel
theorem dX3_queueKnot_19 : decode cX3_queueKnot 19 = .ok (.ireturn, 1) := by decide +kernel
theorem dX3_queueKnot_20 : decode cX3_queueKnot 20 = .ok (.aload_n 0, 1) := by decide +kernel
theorem dX3_queueKnot_21 : decode cX3_queueKnot 21 = .ok (.getfield 18, 3) := by decide +kernel
theorem dX3_queueKnot_24 : decode cX3_queueKnot 24 = .ok (.iload_n 2, 1) := by decide +kernel
theorem dX3_queueKnot_25 : decode cX3_queueKnot 25 = .ok (.iload_n 1, 1) := by decide +kernel
theorem dX3_queueKnot_26 : decode cX3_queueKnot 26 = .ok (.iastore, 1) := by decide +kernel
theorem dX3_queueKnot_27 : decode cX3_queueKnot 27 = .ok (.iload_n 2, 1) := by decide +kernel
theorem dX3_queueKnot_28 : decode cX3_queueKnot 28 = .ok (.iconst 1, 1) := by decide +kernel
theorem dX3_queueKnot_29 : decode cX3_queueKnot 29 = .ok (.iadd, 1) := by decide +kernel
theorem dX3_queueKnot_30 : decode cX3_queueKnot 30 = .ok (.ireturn, 1) := by decide +kernel
theorem dX3_layTwineAfterTwine_0 : decode cX3_layTwineAfterTwine 0 = .ok (.aload_n 0, 1) := by decide +kernel
theorem dX3_layTwineAfterTwine_1 : decode cX3_layTwineAfterTwine 1 = .ok (.aload_n 1, 1) := by decide +kernel
theorem dX3_layTwineAfterTwine_2 : decode cX3_layTwineAfterTwine 2 = .ok (.invokevirtual 35, 3) := by decide +kernel
theorem dX3_layTwineAfterTwine_5 : decode cX3_layTwineAfterTwine 5 = .ok (.iconst 0, 1) := by decide +kernel
theorem dX3_layTwineAfterTwine_6 : decode cX3_layTwineAfterTwine 6 = .ok (.istore_n 2, 1) := by decide +kernel
theorem dX3_layTwineAfterTwine_7 : decode cX3_layTwineAfterTwine 7 = .ok (.iconst 0, 1) := by decide +kernel
theorem dX3_layTwineAfterTwine_8 : decode cX3_layTwineAfterTwine 8 = .ok (.istore_n 3, 1) := by decide +kernel
theorem dX3_layTwineAfterTwine_9 : decode cX3_layTwineAfterTwine 9 = .ok (.iload_n 3, 1) := by decide +kernel
theorem dX3_layTwineAfterTwine_10 : decode cX3_layTwineAfterTwine 10 = .ok (.bipush 121, 2) := by decide +kernel
theorem dX3_layTwineAfterTwine_12 : decode cX3_layTwineAfterTwine 12 = .ok (.if_icmp .ge 28, 3) := by decide +kernel
theorem dX3_layTwineAfterTwine_15 : decode cX3_layTwineAfterTwine 15 = .ok (.aload_n 0, 1) := by decide +kernel
theorem dX3_layTwineAfterTwine_16 : decode cX3_layTwineAfterTwine 16 = .ok (.iload_n 3, 1) := by decide +kernel
theorem dX3_layTwineAfterTwine_17 : decode cX3_layTwineAfterTwine 17 = .ok (.invokevirtual 42, 3) := by decide +kernel
theorem dX3_layTwineAfterTwine_20 : decode cX3_layTwineAfterTwine 20 = .ok (.iconst 2, 1) := by decide +kernel
theorem dX3_layTwineAfterTwine_21 : decode cX3_layTwineAfterTwine 21 = .ok (.irem, 1) := by decide +kernel
theorem dX3_layTwineAfterTwine_22 : decode cX3_layTwineAfterTwine 22 = .ok (.iconst 1, 1) := by decide +kernel
theorem dX3_layTwineAfterTwine_23 : decode cX3_layTwineAfterTwine 23 = .ok (.if_icmp .ne 11, 3) := by decide +kernel
theorem dX3_layTwineAfterTwine_26 : decode cX3_layTwineAfterTwine 26 = .ok (.aload_n 0, 1) := by decide +kernel
theorem dX3_layTwineAfterTwine_27 : decode cX3_layTwineAfterTwine 27 = .ok (.iload_n 3, 1) := by decide +kernel
theorem dX3_layTwineAfterTwine_28 : decode cX3_layTwineAfterTwine 28 = .ok (.invokevirtual 64, 3) := by decide +kernel
theorem dX3_layTwineAfterTwine_31 : decode cX3_layTwineAfterTwine 31 = .ok (.iinc 2 1, 3) := by decide +kernel
theorem dX3_layTwineAfterTwine_34 : decode cX3_layTwineAfterTwine 34 = .ok (.iinc 3 2, 3) := by decide +kernel
theorem dX3_layTwineAfterTwine_37 : decode cX3_layTwineAfterTwine 37 = .ok (.goto (-28), 3) := by decide +kernel
theorem dX3_layTwineAfterTwine_40 : decode cX3_layTwineAfterTwine 40 = .ok (.aload_n 0, 1) := by decide +kernel
theorem dX3_layTwineAfterTwine_41 : decode cX3_layTwineAfterTwine 41 = .ok (.invokevirtual 67, 3) := by decide +kernel
theorem dX3_layTwineAfterTwine_44 : decode cX3_layTwineAfterTwine 44 = .ok (.iconst 0, 1) := by decide +kernel
theorem dX3_layTwineAfterTwine_45 : decode cX3_layTwineAfterTwine 45 = .ok (.istore_n 3, 1) := by decide +kernel
theorem dX3_layTwineAfterTwine_46 : decode cX3_layTwineAfterTwine 46 = .ok (.iload_n 3, 1) := by decide +kernel
theorem dX3_layTwineAfterTwine_47 : decode cX3_layTwineAfterTwine 47 = .ok (.bipush 121, 2) := by decide +kernel
theorem dX3_layTwineAfterTwine_49 : decode cX3_layTwineAfterTwine 49 = .ok (.if_icmp .ge 29, 3) := by decide +kernel
theorem dX3_layTwineAfterTwine_52 : decode cX3_layTwineAfterTwine 52 = .ok (.aload_n 0, 1) := by decide +kernel
theorem dX3_layTwineAfterTwine_53 : decode cX3_layTwineAfterTwine 53 = .ok (.iload_n 3, 1) := by decide +kernel
theorem dX3_layTwineAfterTwine_54 : decode cX3_layTwineAfterTwine 54 = .ok (.invokevirtual 42, 3) := by decide +kernel
theorem dX3_layTwineAfterTwine_57 : decode cX3_layTwineAfterTwine 57 = .ok (.ifCond .le 15, 3) := by decide +kernel
theorem dX3_layTwineAfterTwine_60 : decode cX3_layTwineAfterTwine 60 = .ok (.aload_n 0, 1) := by decide +kernel
theorem dX3_layTwineAfterTwine_61 : decode cX3_layTwineAfterTwine 61 = .ok (.iload_n 3, 1) := by decide +kernel
theorem dX3_layTwineAfterTwine_62 : decode cX3_layTwineAfterTwine 62 = .ok (.invokevirtual 64, 3) := by decide +kernel
theorem dX3_layTwineAfterTwine_65 : decode cX3_layTwineAfterTwine 65 = .ok (.aload_n 0, 1) := by decide +kernel
theorem dX3_layTwineAfterTwine_66 : decode cX3_layTwineAfterTwine 66 = .ok (.invokevirtual 67, 3) := by decide +kernel
theorem dX3_layTwineAfterTwine_69 : decode cX3_layTwineAfterTwine 69 = .ok (.iinc 2 1, 3) := by decide +kernel
theorem dX3_layTwineAfterTwine_72 : decode cX3_layTwineAfterTwine 72 = .ok (.iinc 3 2, 3) := by decide +kernel
theorem dX3_layTwineAfterTwine_75 : decode cX3_layTwineAfterTwine 75 = .ok (.goto (-29), 3) := by decide +kernel
theorem dX3_layTwineAfterTwine_78 : decode cX3_layTwineAfterTwine 78 = .ok (.iload_n 2, 1) := by decide +kernel
theorem dX3_layTwineAfterTwine_79 : decode cX3_layTwineAfterTwine 79 = .ok (.ireturn, 1) := by decide +kernel
theorem dX3_layRingsTouched_0 : decode cX3_layRingsTouched 0 = .ok (.iconst 1, 1) := by decide +kernel
theorem dX3_layRingsTouched_1 : decode cX3_layRingsTouched 1 = .ok (.istore_n 1, 1) := by decide +kernel
theorem dX3_layRingsTouched_2 : decode cX3_layRingsTouched 2 = .ok (.iconst 0, 1) := by decide +kernel
theorem dX3_layRingsTouched_3 : decode cX3_layRingsTouched 3 = .ok (.istore_n 2, 1) := by decide +kernel
theorem dX3_layRingsTouched_4 : decode cX3_layRingsTouched 4 = .ok (.iload_n 2, 1) := by decide +kernel
theorem dX3_layRingsTouched_5 : decode cX3_layRingsTouched 5 = .ok (.bipush 100, 2) := by decide +kernel
theorem dX3_layRingsTouched_7 : decode cX3_layRingsTouched 7 = .ok (.if_icmp .ge 18, 3) := by decide +kernel
theorem dX3_layRingsTouched_10 : decode cX3_layRingsTouched 10 = .ok (.iload_n 1, 1) := by decide +kernel
theorem dX3_layRingsTouched_11 : decode cX3_layRingsTouched 11 = .ok (.ifCond .eq 14, 3) := by decide +kernel
theorem dX3_layRingsTouched_14 : decode cX3_layRingsTouched 14 = .ok (.aload_n 0, 1) := by decide +kernel
theorem dX3_layRingsTouched_15 : decode cX3_layRingsTouched 15 = .ok (.invokevirtual 70, 3) := by decide +kernel
theorem dX3_layRingsTouched_18 : decode cX3_layRingsTouched 18 = .ok (.istore_n 1, 1) := by decide +kernel
theorem dX3_layRingsTouched_19 : decode cX3_layRingsTouched 19 = .ok (.iinc 2 1, 3) := by decide +kernel
theorem dX3_layRingsTouched_22 : decode cX3_layRingsTouched 22 = .ok (.goto (-18), 3) := by decide +kernel
theorem dX3_layRingsTouched_25 : decode cX3_layRingsTouched 25 = .ok (.return_, 1) := by decide +kernel
theorem dX3_layOneRoundOfRings_0 : decode cX3_layOneRoundOfRings 0 = .ok (.iconst 0, 1) := by decide +kernel
theorem dX3_layOneRoundOfRings_1 : decode cX3_layOneRoundOfRings 1 = .ok (.istore_n 1, 1) := by decide +kernel
theorem dX3_layOneRoundOfRings_2 : decode cX3_layOneRoundOfRings 2 = .ok (.iconst 0, 1) := by decide +kernel
theorem dX3_layOneRoundOfRings_3 : decode cX3_layOneRoundOfRings 3 = .ok (.istore_n 2, 1) := by decide +kernel
theorem dX3_layOneRoundOfRings_4 : decode cX3_layOneRoundOfRings 4 = .ok (.iload_n 2, 1) := by decide +kernel
theorem dX3_layOneRoundOfRings_5 : decode cX3_layOneRoundOfRings 5 = .ok (.bipush 121, 2) := by decide +kernel
theorem dX3_layOneRoundOfRings_7 : decode cX3_layOneRoundOfRings 7 = .ok (.if_icmp .ge 32, 3) := by decide +kernel
theorem dX3_layOneRoundOfRings_10 : decode cX3_layOneRoundOfRings 10 = .ok (.aload_n 0, 1) := by decide +kernel
theorem dX3_layOneRoundOfRings_11 : decode cX3_layOneRoundOfRings 11 = .ok (.iload_n 2, 1) := by decide +kernel
theorem dX3_layOneRoundOfRings_12 : decode cX3_layOneRoundOfRings 12 = .ok (.invokevirtual 39, 3) := by decide +kernel
theorem dX3_layOneRoundOfRings_15 : decode cX3_layOneRoundOfRings 15 = .ok (.ifCond .eq 18, 3) := by decide +kernel
theorem dX3_layOneRoundOfRings_18 : decode cX3_layOneRoundOfRings 18 = .ok (.aload_n 0, 1) := by decide +kernel
theorem dX3_layOneRoundOfRings_19 : decode cX3_layOneRoundOfRings 19 = .ok (.iload_n 2, 1) := by decide +kernel
theorem dX3_layOneRoundOfRings_20 : decode cX3_layOneRoundOfRings 20 = .ok (.invokevirtual 42, 3) := by decide +kernel
theorem dX3_layOneRoundOfRings_23 : decode cX3_layOneRoundOfRings 23 = .ok (.ifCond .le 10, 3) := by decide +kernel
theorem dX3_layOneRoundOfRings_26 : decode cX3_layOneRoundOfRings 26 = .ok (.aload_n 0, 1) := by decide +kernel
theorem dX3_layOneRoundOfRings_27 : decode cX3_layOneRoundOfRings 27 = .ok (.iload_n 2, 1) := by decide +kernel
theorem dX3_layOneRoundOfRings_28 : decode cX3_layOneRoundOfRings 28 = .ok (.invokevirtual 64, 3) := by decide +kernel
theorem dX3_layOneRoundOfRings_31 : decode cX3_layOneRoundOfRings 31 = .ok (.iconst 1, 1) := by decide +kernel
theorem dX3_layOneRoundOfRings_32 : decode cX3_layOneRoundOfRings 32 = .ok (.istore_n 1, 1) := by decide +kernel
theorem dX3_layOneRoundOfRings_33 : decode cX3_layOneRoundOfRings 33 = .ok (.iinc 2 2, 3) := by decide +kernel
theorem dX3_layOneRoundOfRings_36 : decode cX3_layOneRoundOfRings 36 = .ok (.goto (-32), 3) := by decide +kernel
theorem dX3_layOneRoundOfRings_39 : decode cX3_layOneRoundOfRings 39 = .ok (.iload_n 1, 1) := by decide +kernel
theorem dX3_layOneRoundOfRings_40 : decode cX3_layOneRoundOfRings 40 = .ok (.ireturn, 1) := by decide +kernel
theorem dX3_layFrom_0 : decode cX3_layFrom 0 = .ok (.iload_n 1, 1) := by decide +kernel
theorem dX3_layFrom_1 : decode cX3_layFrom 1 = .ok (.istore_n 2, 1) := by decide +kernel
theorem dX3_layFrom_2 : decode cX3_layFrom 2 = .ok (.aload_n 0, 1) := by decide +kernel
theorem dX3_layFrom_3 : decode cX3_layFrom 3 = .ok (.iload_n 2, 1) := by decide +kernel
theorem dX3_layFrom_4 : decode cX3_layFrom 4 = .ok (.invokevirtual 60, 3) := by decide +kernel
theorem dX3_layFrom_7 : decode cX3_layFrom 7 = .ok (.aload_n 0, 1) := by decide +kernel
theorem dX3_layFrom_8 : decode cX3_layFrom 8 = .ok (.iload_n 2, 1) := by decide +kernel
theorem dX3_layFrom_9 : decode cX3_layFrom 9 = .ok (.invokevirtual 74, 3) := by decide +kernel
theorem dX3_layFrom_12 : decode cX3_layFrom 12 = .ok (.istore_n 3, 1) := by decide +kernel
theorem dX3_layFrom_13 : decode cX3_layFrom 13 = .ok (.iconst 0, 1) := by decide +kernel
theorem dX3_layFrom_14 : decode cX3_layFrom 14 = .ok (.istore 4, 2) := by decide +kernel
theorem dX3_layFrom_16 : decode cX3_layFrom 16 = .ok (.iload 4, 2) := by decide +kernel
theorem dX3_layFrom_18 : decode cX3_layFrom 18 = .ok (.bipush 100, 2) := by decide +kernel
theorem dX3_layFrom_20 : decode cX3_layFrom 20 = .ok (.if_icmp .ge 40, 3) := by decide +kernel
theorem dX3_layFrom_23 : decode cX3_layFrom 23 = .ok (.iload_n 3, 1) := by decide +kernel
theorem dX3_layFrom_24 : decode cX3_layFrom 24 = .ok (.iconst (-1), 1) := by decide +kernel
theorem dX3_layFrom_25 : decode cX3_layFrom 25 = .ok (.if_icmp .eq 35, 3) := by decide +kernel
theorem dX3_layFrom_28 : decode cX3_layFrom 28 = .ok (.aload_n 0, 1) := by decide +kernel
theorem dX3_layFrom_29 : decode cX3_layFrom 29 = .ok (.iload_n 2, 1) := by decide +kernel
theorem dX3_layFrom_30 : decode cX3_layFrom 30 = .ok (.iload_n 3, 1) := by decide +kernel
theorem dX3_layFrom_31 : decode cX3_layFrom 31 = .ok (.invokestatic 28, 3) := by decide +kernel
theorem dX3_layFrom_34 : decode cX3_layFrom 34 = .ok (.invokevirtual 77, 3) := by decide +kernel
theorem dX3_layFrom_37 : decode cX3_layFrom 37 = .ok (.iload_n 2, 1) := by decide +kernel
theorem dX3_layFrom_38 : decode cX3_layFrom 38 = .ok (.iload_n 3, 1) := by decide +kernel
theorem dX3_layFrom_39 : decode cX3_layFrom 39 = .ok (.invokestatic 57, 3) := by decide +kernel
theorem dX3_layFrom_42 : decode cX3_layFrom 42 = .ok (.istore_n 2, 1) := by decide +kernel
theorem dX3_layFrom_43 : decode cX3_layFrom 43 = .ok (.aload_n 0, 1) := by decide +kernel
theorem dX3_layFrom_44 : decode cX3_layFrom 44 = .ok (.iload_n 2, 1) := by decide +kernel
theorem dX3_layFrom_45 : decode cX3_layFrom 45 = .ok (.invokevirtual 60, 3) := by decide +kernel
theorem dX3_layFrom_48 : decode cX3_layFrom 48 = .ok (.aload_n 0, 1) := by decide +kernel
theorem dX3_layFrom_49 : decode cX3_layFrom 49 = .ok (.iload_n 2, 1) := by decide +kernel
theorem dX3_layFrom_50 : decode cX3_layFrom 50 = .ok (.invokevirtual 74, 3) := by decide +kernel
theorem dX3_layFrom_53 : decode cX3_layFrom 53 = .ok (.istore_n 3, 1) := by decide +kernel
theorem dX3_layFrom_54 : decode cX3_layFrom 54 = .ok (.iinc 4 1, 3) := by decide +kernel
theorem dX3_layFrom_57 : decode cX3_layFrom 57 = .ok (.goto (-41), 3) := by decide +kernel
theorem dX3_layFrom_60 : decode cX3_layFrom 60 = .ok (.return_, 1) := by decide +kernel
theorem dX3_wayLeftAt_0 : decode cX3_wayLeftAt 0 = .ok (.iconst 0, 1) := by decide +kernel
theorem dX3_wayLeftAt_1 : decode cX3_wayLeftAt 1 = .ok (.istore_n 2, 1) := by decide +kernel
theorem dX3_wayLeftAt_2 : decode cX3_wayLeftAt 2 = .ok (.iload_n 2, 1) := by decide +kernel
theorem dX3_wayLeftAt_3 : decode cX3_wayLeftAt 3 = .ok (.iconst 4, 1) := by decide +kernel
theorem dX3_wayLeftAt_4 : decode cX3_wayLeftAt 4 = .ok (.if_icmp .ge 23, 3) := by decide +kernel
theorem dX3_wayLeftAt_7 : decode cX3_wayLeftAt 7 = .ok (.aload_n 0, 1) := by decide +kernel
theorem dX3_wayLeftAt_8 : decode cX3_wayLeftAt 8 = .ok (.iload_n 1, 1) := by decide +kernel
theorem dX3_wayLeftAt_9 : decode cX3_wayLeftAt 9 = .ok (.iload_n 2, 1) := by decide +kernel
theorem dX3_wayLeftAt_10 : decode cX3_wayLeftAt 10 = .ok (.invokestatic 28, 3) := by decide +kernel
theorem dX3_wayLeftAt_13 : decode cX3_wayLeftAt 13 = .ok (.invokevirtual 32, 3) := by decide +kernel
theorem dX3_wayLeftAt_16 : decode cX3_wayLeftAt 16 = .ok (.ifCond .eq 5, 3) := by decide +kernel
theorem dX3_wayLeftAt_19 : decode cX3_wayLeftAt 19 = .ok (.iload_n 2, 1) := by decide +kernel
theorem dX3_wayLeftAt_20 : decode cX3_wayLeftAt 20 = .ok (.ireturn, 1) := by decide +kernel
theorem dX3_wayLeftAt_21 : decode cX3_wayLeftAt 21 = .ok (.iinc 2 1, 3) := by decide +kernel
theorem dX3_wayLeftAt_24 : decode cX3_wayLeftAt 24 = .ok (.goto (-22), 3) := by decide +kernel
theorem dX3_wayLeftAt_27 : decode cX3_wayLeftAt 27 = .ok (.iconst (-1), 1) := by decide +kernel
theorem dX3_wayLeftAt_28 : decode cX3_wayLeftAt 28 = .ok (.ireturn, 1) := by decide +kernel
theorem dX3_layBar_0 : decode cX3_layBar 0 = .ok (.iload_n 1, 1) := by decide +kernel
theorem dX3_layBar_1 : decode cX3_layBar 1 = .ok (.ifCond .lt 19, 3) := by decide +kernel
theorem dX3_layBar_4 : decode cX3_layBar 4 = .ok (.iload_n 1, 1) := by decide +kernel
theorem dX3_layBar_5 : decode cX3_layBar 5 = .ok (.aload_n 0, 1) := by decide +kernel
theorem dX3_layBar_6 : decode cX3_layBar 6 = .ok (.getfield 11, 3) := by decide +kernel
theorem dX3_layBar_9 : decode cX3_layBar 9 = .ok (.arraylength, 1) := by decide +kernel
theorem dX3_layBar_10 : decode cX3_layBar 10 = .ok (.if_icmp .ge 10, 3) := by decide +kernel
theorem dX3_layBar_13 : decode cX3_layBar 13 = .ok (.aload_n 0, 1) := by decide +kernel
theorem dX3_layBar_14 : decode cX3_layBar 14 = .ok (.getfield 11, 3) := by decide +kernel
theorem dX3_layBar_17 : decode cX3_layBar 17 = .ok (.iload_n 1, 1) := by decide +kernel
theorem dX3_layBar_18 : decode cX3_layBar 18 = .ok (.iconst 0, 1) := by decide +kernel
theorem dX3_layBar_19 : decode cX3_layBar 19 = .ok (.bastore, 1) := by decide +kernel
theorem dX3_layBar_20 : decode cX3_layBar 20 = .ok (.return_, 1) := by decide +kernel
theorem dX4_init_0 : decode cX4_init 0 = .ok (.aload_n 0, 1) := by decide +kernel
theorem dX4_init_1 : decode cX4_init 1 = .ok (.invokespecial 3, 3) := by decide +kernel
theorem dX4_init_4 : decode cX4_init 4 = .ok (.aload_n 0, 1) := by decide +kernel
theorem dX4_init_5 : decode cX4_init 5 = .ok (.bipush 100, 2) := by decide +kernel
theorem dX4_init_7 : decode cX4_init 7 = .ok (.newarray .boolean, 2) := by decide +kernel
theorem dX4_init_9 : decode cX4_init 9 = .ok (.putfield 9, 3) := by decide +kernel
theorem dX4_init_12 : decode cX4_init 12 = .ok (.aload_n 0, 1) := by decide +kernel
theorem dX4_init_13 : decode cX4_init 13 = .ok (.iload_n 1, 1) := by decide +kernel
theorem dX4_init_14 : decode cX4_init 14 = .ok (.putfield 15, 3) := by decide +kernel
theorem dX4_init_17 : decode cX4_init 17 = .ok (.aload_n 0, 1) := by decide +kernel
theorem dX4_init_18 : decode cX4_init 18 = .ok (.iload_n 2, 1) := by decide +kernel
theorem dX4_init_19 : decode cX4_init 19 = .ok (.putfield 19, 3) := by decide +kernel
theorem dX4_init_22 : decode cX4_init 22 = .ok (.return_, 1) := by decide +kernel
theorem dX4_hasKnot_0 : decode cX4_hasKnot 0 = .ok (.iload_n 1, 1) := by decide +kernel
theorem dX4_hasKnot_1 : decode cX4_hasKnot 1 = .ok (.ifCond .lt 35, 3) := by decide +kernel
theorem dX4_hasKnot_4 : decode cX4_hasKnot 4 = .ok (.iload_n 1, 1) := by decide +kernel
theorem dX4_hasKnot_5 : decode cX4_hasKnot 5 = .ok (.aload_n 0, 1) := by decide +kernel
theorem dX4_hasKnot_6 : decode cX4_hasKnot 6 = .ok (.getfield 15, 3) := by decide +kernel
theorem dX4_hasKnot_9 : decode cX4_hasKnot 9 = .ok (.if_icmp .gt 27, 3) := by decide +kernel
theorem dX4_hasKnot_12 : decode cX4_hasKnot 12 = .ok (.iload_n 2, 1) := by decide +kernel
theorem dX4_hasKnot_13 : decode cX4_hasKnot 13 = .ok (.ifCond .lt 23, 3) := by decide +kernel
theorem dX4_hasKnot_16 : decode cX4_hasKnot 16 = .ok (.iload_n 2, 1) := by decide +kernel
theorem dX4_hasKnot_17 : decode cX4_hasKnot 17 = .ok (.aload_n 0, 1) := by decide +kernel
theorem dX4_hasKnot_18 : decode cX4_hasKnot 18 = .ok (.getfield 19, 3) := by decide +kernel
theorem dX4_hasKnot_21 : decode cX4_hasKnot 21 = .ok (.if_icmp .gt 15, 3) := by decide +kernel
theorem dX4_hasKnot_24 : decode cX4_hasKnot 24 = .ok (.iload_n 1, 1) := by decide +kernel
theorem dX4_hasKnot_25 : decode cX4_hasKnot 25 = .ok (.iload_n 2, 1) := by decide +kernel
theorem dX4_hasKnot_26 : decode cX4_hasKnot 26 = .ok (.iadd, 1) := by decide +kernel
theorem dX4_hasKnot_27 : decode cX4_hasKnot 27 = .ok (.iconst 2, 1) := by decide +kernel
theorem dX4_hasKnot_28 : decode cX4_hasKnot 28 = .ok (.irem, 1) := by decide +kernel
theorem dX4_hasKnot_29 : decode cX4_hasKnot 29 = .ok (.ifCond .ne 7, 3) := by decide +kernel
theorem dX4_hasKnot_32 : decode cX4_hasKnot 32 = .ok (.iconst 1, 1) := by decide +kernel
theorem dX4_hasKnot_33 : decode cX4_hasKnot 33 = .ok (.goto 4, 3) := by decide +kernel
theorem dX4_hasKnot_36 : decode cX4_hasKnot 36 = .ok (.iconst 0, 1) := by decide +kernel
theorem dX4_hasKnot_37 : decode cX4_hasKnot 37 = .ok (.ireturn, 1) := by decide +kernel
theorem dX4_hasBarBelow_0 : decode cX4_hasBarBelow 0 = .ok (.aload_n 0, 1) := by decide +kernel
theorem dX4_hasBarBelow_1 : decode cX4_hasBarBelow 1 = .ok (.iload_n 1, 1) := by decide +kernel
theorem dX4_hasBarBelow_2 : decode cX4_hasBarBelow 2 = .ok (.iload_n 2, 1) := by decide +kernel
theorem dX4_hasBarBelow_3 : decode cX4_hasBarBelow 3 = .ok (.invokevirtual 22, 3) := by decide +kernel
theorem dX4_hasBarBelow_6 : decode cX4_hasBarBelow 6 = .ok (.ifCond .eq 30, 3) := by decide +kernel
theorem dX4_hasBarBelow_9 : decode cX4_hasBarBelow 9 = .ok (.aload_n 0, 1) := by decide +kernel
theorem dX4_hasBarBelow_10 : decode cX4_hasBarBelow 10 = .ok (.iload_n 1, 1) := by decide +kernel
theorem dX4_hasBarBelow_11 : decode cX4_hasBarBelow 11 = .ok (.iconst 1, 1) := by decide +kernel
theorem dX4_hasBarBelow_12 : decode cX4_hasBarBelow 12 = .ok (.iadd, 1) := by decide +kernel
theorem dX4_hasBarBelow_13 : decode cX4_hasBarBelow 13 = .ok (.iload_n 3, 1) := by decide +kernel
theorem dX4_hasBarBelow_14 : decode cX4_hasBarBelow 14 = .ok (.ifCond .eq 9, 3) := by decide +kernel
theorem dX4_hasBarBelow_17 : decode cX4_hasBarBelow 17 = .ok (.iload_n 2, 1) := by decide +kernel
theorem dX4_hasBarBelow_18 : decode cX4_hasBarBelow 18 = .ok (.iconst 1, 1) := by decide +kernel
theorem dX4_hasBarBelow_19 : decode cX4_hasBarBelow 19 = .ok (.iadd, 1) := by decide +kernel
theorem dX4_hasBarBelow_20 : decode cX4_hasBarBelow 20 = .ok (.goto 6, 3) := by decide +kernel
theorem dX4_hasBarBelow_23 : decode cX4_hasBarBelow 23 = .ok (.iload_n 2, 1) := by decide +kernel
theorem dX4_hasBarBelow_24 : decode cX4_hasBarBelow 24 = .ok (.iconst 1, 1) := by decide +kernel
theorem dX4_hasBarBelow_25 : decode cX4_hasBarBelow 25 = .ok (.isub, 1) := by decide +kernel
theorem dX4_hasBarBelow_26 : decode cX4_hasBarBelow 26 = .ok (.invokevirtual 22, 3) := by decide +kernel
theorem dX4_hasBarBelow_29 : decode cX4_hasBarBelow 29 = .ok (.ifCond .eq 7, 3) := by decide +kernel
theorem dX4_hasBarBelow_32 : decode cX4_hasBarBelow 32 = .ok (.iconst 1, 1) := by decide +kernel
theorem dX4_hasBarBelow_33 : decode cX4_hasBarBelow 33 = .ok (.goto 4, 3) := by decide +kernel
theorem dX4_hasBarBelow_36 : decode cX4_hasBarBelow 36 = .ok (.iconst 0, 1) := by decide +kernel
theorem dX4_hasBarBelow_37 : decode cX4_hasBarBelow 37 = .ok (.ireturn, 1) := by decide +kernel
theorem dX4_isTorn_0 : decode cX4_isTorn 0 = .ok (.iload_n 1, 1) := by decide +kernel
theorem dX4_isTorn_1 : decode cX4_isTorn 1 = .ok (.ifCond .lt 25, 3) := by decide +kernel
theorem dX4_isTorn_4 : decode cX4_isTorn 4 = .ok (.iload_n 1, 1) := by decide +kernel
theorem dX4_isTorn_5 : decode cX4_isTorn 5 = .ok (.aload_n 0, 1) := by decide +kernel
theorem dX4_isTorn_6 : decode cX4_isTorn 6 = .ok (.getfield 9, 3) := by decide +kernel
theorem dX4_isTorn_9 : decode cX4_isTorn 9 = .ok (.arraylength, 1) := by decide +kernel
theorem dX4_isTorn_10 : decode cX4_isTorn 10 = .ok (.if_icmp .ge 16, 3) := by decide +kernel
theorem dX4_isTorn_13 : decode cX4_isTorn 13 = .ok (.aload_n 0, 1) := by decide +kernel
theorem dX4_isTorn_14 : decode cX4_isTorn 14 = .ok (.getfield 9, 3) := by decide +kernel
theorem dX4_isTorn_17 : decode cX4_isTorn 17 = .ok (.iload_n 1, 1) := by decide +kernel
theorem dX4_isTorn_18 : decode cX4_isTorn 18 = .ok (.baload, 1) := by decide +kernel
theorem dX4_isTorn_19 : decode cX4_isTorn 19 = .ok (.ifCond .eq 7, 3) := by decide +kernel
theorem dX4_isTorn_22 : decode cX4_isTorn 22 = .ok (.iconst 1, 1) := by decide +kernel
theorem dX4_isTorn_23 : decode cX4_isTorn 23 = .ok (.goto 4, 3) := by decide +kernel
theorem dX4_isTorn_26 : decode cX4_isTorn 26 = .ok (.iconst 0, 1) := by decide +kernel
theorem dX4_isTorn_27 : decode cX4_isTorn 27 = .ok (.ireturn, 1) := by decide +kernel
theorem dX4_tearBar_0 : decode cX4_tearBar 0 = .ok (.iload_n 1, 1) := by decide +kernel
theorem dX4_tearBar_1 : decode cX4_tearBar 1 = .ok (.bipush 10, 2) := by decide +kernel
theorem dX4_tearBar_3 : decode cX4_tearBar 3 = .ok (.imul, 1) := by decide +kernel
theorem dX4_tearBar_4 : decode cX4_tearBar 4 = .ok (.iload_n 2, 1) := by decide +kernel
theorem dX4_tearBar_5 : decode cX4_tearBar 5 = .ok (.iadd, 1) := by decide +kernel
theorem dX4_tearBar_6 : decode cX4_tearBar 6 = .ok (.istore_n 3, 1) := by decide +kernel
theorem dX4_tearBar_7 : decode cX4_tearBar 7 = .ok (.iload_n 3, 1) := by decide +kernel
theorem dX4_tearBar_8 : decode cX4_tearBar 8 = .ok (.ifCond .lt 21, 3) := by decide +kernel
theorem dX4_tearBar_11 : decode cX4_tearBar 11 = .ok (.iload_n 3, 1) := by decide +kernel
theorem dX4_tearBar_12 : decode cX4_tearBar 12 = .ok (.aload_n 0, 1) := by decide +kernel
theorem dX4_tearBar_13 : decode cX4_tearBar 13 = .ok (.getfield 9, 3) := by decide +kernel
theorem dX4_tearBar_16 : decode cX4_tearBar 16 = .ok (.arraylength, 1) := by decide +kernel
theorem dX4_tearBar_17 : decode cX4_tearBar 17 = .ok (.if_icmp .ge 12, 3) := by decide +kernel
theorem dX4_tearBar_20 : decode cX4_tearBar 20 = .ok (.aload_n 0, 1) := by decide +kernel
theorem dX4_tearBar_21 : decode cX4_tearBar 21 = .ok (.getfield 9, 3) := by decide +kernel
theorem dX4_tearBar_24 : decode cX4_tearBar 24 = .ok (.iload_n 3, 1) := by decide +kernel
theorem dX4_tearBar_25 : decode cX4_tearBar 25 = .ok (.baload, 1) := by decide +kernel
theorem dX4_tearBar_26 : decode cX4_tearBar 26 = .ok (.ifCond .eq 5, 3) := by decide +kernel
theorem dX4_tearBar_29 : decode cX4_tearBar 29 = .ok (.iconst 0, 1) := by decide +kernel
theorem dX4_tearBar_30 : decode cX4_tearBar 30 = .ok (.ireturn, 1) := by decide +kernel
theorem dX4_tearBar_31 : decode cX4_tearBar 31 = .ok (.aload_n 0, 1) := by decide +kernel
theorem dX4_tearBar_32 : decode cX4_tearBar 32 = .ok (.getfield 9, 3) := by decide +kernel
theorem dX4_tearBar_35 : decode cX4_tearBar 35 = .ok (.iload_n 3, 1) := by decide +kernel
theorem dX4_tearBar_36 : decode cX4_tearBar 36 = .ok (.iconst 1, 1) := by decide +kernel
theorem dX4_tearBar_37 : decode cX4_tearBar 37 = .ok (.bastore, 1) := by decide +kernel
theorem dX4_tearBar_38 : decode cX4_tearBar 38 = .ok (.aload_n 0, 1) := by decide +kernel
theorem dX4_tearBar_39 : decode cX4_tearBar 39 = .ok (.dup, 1) := by decide +kernel
theorem dX4_tearBar_40 : decode cX4_tearBar 40 = .ok (.getfield 26, 3) := by decide +kernel
theorem dX4_tearBar_43 : decode cX4_tearBar 43 = .ok (.iconst 1, 1) := by decide +kernel
theorem dX4_tearBar_44 : decode cX4_tearBar 44 = .ok (.iadd, 1) := by decide +kernel
theorem dX4_tearBar_45 : decode cX4_tearBar 45 = .ok (.putfield 26, 3) := by decide +kernel
theorem dX4_tearBar_48 : decode cX4_tearBar 48 = .ok (.iconst 1, 1) := by decide +kernel
theorem dX4_tearBar_49 : decode cX4_tearBar 49 = .ok (.ireturn, 1) := by decide +kernel
theorem dX4_tearWithin_0 : decode cX4_tearWithin 0 = .ok (.iload_n 3, 1) := by decide +kernel
theorem dX4_tearWithin_1 : decode cX4_tearWithin 1 = .ok (.aload_n 0, 1) := by decide +kernel
theorem dX4_tearWithin_2 : decode cX4_tearWithin 2 = .ok (.getfield 15, 3) := by decide +kernel
theorem dX4_tearWithin_5 : decode cX4_tearWithin 5 = .ok (.invokestatic 29, 3) := by decide +kernel
theorem dX4_tearWithin_8 : decode cX4_tearWithin 8 = .ok (.istore 5, 2) := by decide +kernel
theorem dX4_tearWithin_10 : decode cX4_tearWithin 10 = .ok (.iload 4, 2) := by decide +kernel
theorem dX4_tearWithin_12 : decode cX4_tearWithin 12 = .ok (.aload_n 0, 1) := by decide +kernel
theorem dX4_tearWithin_13 : decode cX4_tearWithin 13 = .ok (.getfield 19, 3) := by decide +kernel
theorem dX4_tearWithin_16 : decode cX4_tearWithin 16 = .ok (.invokestatic 29, 3) := by decide +kernel
theorem dX4_tearWithin_19 : decode cX4_tearWithin 19 = .ok (.istore 6, 2) := by decide +kernel
theorem dX4_tearWithin_21 : decode cX4_tearWithin 21 = .ok (.iload_n 1, 1) := by decide +kernel
theorem dX4_tearWithin_22 : decode cX4_tearWithin 22 = .ok (.istore 7, 2) := by decide +kernel
theorem dX4_tearWithin_24 : decode cX4_tearWithin 24 = .ok (.iload 7, 2) := by decide +kernel
theorem dX4_tearWithin_26 : decode cX4_tearWithin 26 = .ok (.iload 5, 2) := by decide +kernel
theorem dX4_tearWithin_28 : decode cX4_tearWithin 28 = .ok (.if_icmp .ge 34, 3) := by decide +kernel
theorem dX4_tearWithin_31 : decode cX4_tearWithin 31 = .ok (.iload_n 2, 1) := by decide +kernel
theorem dX4_tearWithin_32 : decode cX4_tearWithin 32 = .ok (.istore 8, 2) := by decide +kernel
theorem dX4_tearWithin_34 : decode cX4_tearWithin 34 = .ok (.iload 8, 2) := by decide +kernel
theorem dX4_tearWithin_36 : decode cX4_tearWithin 36 = .ok (.iload 6, 2) := by decide +kernel
theorem dX4_tearWithin_38 : decode cX4_tearWithin 38 = .ok (.if_icmp .ge 18, 3) := by decide +kernel
theorem dX4_tearWithin_41 : decode cX4_tearWithin 41 = .ok (.aload_n 0, 1) := by decide +kernel
theorem dX4_tearWithin_42 : decode cX4_tearWithin 42 = .ok (.iload 7, 2) := by decide +kernel
theorem dX4_tearWithin_44 : decode cX4_tearWithin 44 = .ok (.iload 8, 2) := by decide +kernel
theorem dX4_tearWithin_46 : decode cX4_tearWithin 46 = .ok (.invokevirtual 35, 3) := by decide +kernel
theorem dX4_tearWithin_49 : decode cX4_tearWithin 49 = .ok (.pop, 1) := by decide +kernel
theorem dX4_tearWithin_50 : decode cX4_tearWithin 50 = .ok (.iinc 8 1, 3) := by decide +kernel
theorem dX4_tearWithin_53 : decode cX4_tearWithin 53 = .ok (.goto (-19), 3) := by decide +kernel
theorem dX4_tearWithin_56 : decode cX4_tearWithin 56 = .ok (.iinc 7 1, 3) := by decide +kernel
theorem dX4_tearWithin_59 : decode cX4_tearWithin 59 = .ok (.goto (-35), 3) := by decide +kernel
theorem dX4_tearWithin_62 : decode cX4_tearWithin 62 = .ok (.return_, 1) := by decide +kernel
theorem dX4_layAllAgain_0 : decode cX4_layAllAgain 0 = .ok (.aload_n 0, 1) := by decide +kernel
theorem dX4_layAllAgain_1 : decode cX4_layAllAgain 1 = .ok (.getfield 26, 3) := by decide +kernel
theorem dX4_layAllAgain_4 : decode cX4_layAllAgain 4 = .ok (.istore_n 1, 1) := by decide +kernel
theorem dX4_layAllAgain_5 : decode cX4_layAllAgain 5 = .ok (.iconst 0, 1) := by decide +kernel
theorem dX4_layAllAgain_6 : decode cX4_layAllAgain 6 = .ok (.istore_n 2, 1) := by decide +kernel
theorem dX4_layAllAgain_7 : decode cX4_layAllAgain 7 = .ok (.iload_n 2, 1) := by decide +kernel
theorem dX4_layAllAgain_8 : decode cX4_layAllAgain 8 = .ok (.aload_n 0, 1) := by decide +kernel
theorem dX4_layAllAgain_9 : decode cX4_layAllAgain 9 = .ok (.getfield 9, 3) := by decide +kernel
theorem dX4_layAllAgain_12 : decode cX4_layAllAgain 12 = .ok (.arraylength, 1) := by decide +kernel
theorem dX4_layAllAgain_13 : decode cX4_layAllAgain 13 = .ok (.if_icmp .ge 16, 3) := by decide +kernel
theorem dX4_layAllAgain_16 : decode cX4_layAllAgain 16 = .ok (.aload_n 0, 1) := by decide +kernel
theorem dX4_layAllAgain_17 : decode cX4_layAllAgain 17 = .ok (.getfield 9, 3) := by decide +kernel
theorem dX4_layAllAgain_20 : decode cX4_layAllAgain 20 = .ok (.iload_n 2, 1) := by decide +kernel
theorem dX4_layAllAgain_21 : decode cX4_layAllAgain 21 = .ok (.iconst 0, 1) := by decide +kernel
theorem dX4_layAllAgain_22 : decode cX4_layAllAgain 22 = .ok (.bastore, 1) := by decide +kernel
theorem dX4_layAllAgain_23 : decode cX4_layAllAgain 23 = .ok (.iinc 2 1, 3) := by decide +kernel
theorem dX4_layAllAgain_26 : decode cX4_layAllAgain 26 = .ok (.goto (-19), 3) := by decide +kernel
theorem dX4_layAllAgain_29 : decode cX4_layAllAgain 29 = .ok (.aload_n 0, 1) := by decide +kernel
theorem dX4_layAllAgain_30 : decode cX4_layAllAgain 30 = .ok (.iconst 0, 1) := by decide +kernel
theorem dX4_layAllAgain_31 : decode cX4_layAllAgain 31 = .ok (.putfield 26, 3) := by decide +kernel
theorem dX4_layAllAgain_34 : decode cX4_layAllAgain 34 = .ok (.iload_n 1, 1) := by decide +kernel
theorem dX4_layAllAgain_35 : decode cX4_layAllAgain 35 = .ok (.ireturn, 1) := by decide +kernel
theorem dX5_init_0 : decode cX5_init 0 = .ok (.aload_n 0, 1) := by decide +kernel
theorem dX5_init_1 : decode cX5_init 1 = .ok (.invokespecial 1, 3) := by decide +kernel
theorem dX5_init_4 : decode cX5_init 4 = .ok (.aload_n 0, 1) := by decide +kernel
theorem dX5_init_5 : decode cX5_init 5 = .ok (.aload_n 1, 1) := by decide +kernel
theorem dX5_init_6 : decode cX5_init 6 = .ok (.putfield 7, 3) := by decide +kernel
theorem dX5_init_9 : decode cX5_init 9 = .ok (.aload_n 0, 1) := by decide +kernel
theorem dX5_init_10 : decode cX5_init 10 = .ok (.iload_n 2, 1) := by decide +kernel
theorem dX5_init_11 : decode cX5_init 11 = .ok (.putfield 13, 3) := by decide +kernel
theorem dX5_init_14 : decode cX5_init 14 = .ok (.aload_n 0, 1) := by decide +kernel
theorem dX5_init_15 : decode cX5_init 15 = .ok (.iload_n 3, 1) := by decide +kernel
theorem dX5_init_16 : decode cX5_init 16 = .ok (.putfield 17, 3) := by decide +kernel
theorem dX5_init_19 : decode cX5_init 19 = .ok (.return_, 1) := by decide +kernel
theorem dX5_carriedBy_0 : decode cX5_carriedBy 0 = .ok (.iload_n 1, 1) := by decide +kernel
theorem dX5_carriedBy_1 : decode cX5_carriedBy 1 = .ok (.i2l, 1) := by decide +kernel
theorem dX5_carriedBy_2 : decode cX5_carriedBy 2 = .ok (.lstore_n 2, 1) := by decide +kernel
theorem dX5_carriedBy_3 : decode cX5_carriedBy 3 = .ok (.lconst 0, 1) := by decide +kernel
theorem dX5_carriedBy_4 : decode cX5_carriedBy 4 = .ok (.lstore 4, 2) := by decide +kernel
theorem dX5_carriedBy_6 : decode cX5_carriedBy 6 = .ok (.iconst 0, 1) := by decide +kernel
theorem dX5_carriedBy_7 : decode cX5_carriedBy 7 = .ok (.istore 6, 2) := by decide +kernel
theorem dX5_carriedBy_9 : decode cX5_carriedBy 9 = .ok (.iload 6, 2) := by decide +kernel
theorem dX5_carriedBy_11 : decode cX5_carriedBy 11 = .ok (.aload_n 0, 1) := by decide +kernel
theorem dX5_carriedBy_12 : decode cX5_carriedBy 12 = .ok (.getfield 13, 3) := by decide +kernel
theorem dX5_carriedBy_15 : decode cX5_carriedBy 15 = .ok (.if_icmp .ge 30, 3) := by decide +kernel
theorem dX5_carriedBy_18 : decode cX5_carriedBy 18 = .ok (.lload 4, 2) := by decide +kernel
theorem dX5_carriedBy_20 : decode cX5_carriedBy 20 = .ok (.lload_n 2, 1) := by decide +kernel
theorem dX5_carriedBy_21 : decode cX5_carriedBy 21 = .ok (.ladd, 1) := by decide +kernel
theorem dX5_carriedBy_22 : decode cX5_carriedBy 22 = .ok (.lstore 4, 2) := by decide +kernel
theorem dX5_carriedBy_24 : decode cX5_carriedBy 24 = .ok (.lload_n 2, 1) := by decide +kernel
theorem dX5_carriedBy_25 : decode cX5_carriedBy 25 = .ok (.bipush 100, 2) := by decide +kernel
theorem dX5_carriedBy_27 : decode cX5_carriedBy 27 = .ok (.aload_n 0, 1) := by decide +kernel
theorem dX5_carriedBy_28 : decode cX5_carriedBy 28 = .ok (.getfield 17, 3) := by decide +kernel
theorem dX5_carriedBy_31 : decode cX5_carriedBy 31 = .ok (.isub, 1) := by decide +kernel
theorem dX5_carriedBy_32 : decode cX5_carriedBy 32 = .ok (.i2l, 1) := by decide +kernel
theorem dX5_carriedBy_33 : decode cX5_carriedBy 33 = .ok (.lmul, 1) := by decide +kernel
theorem dX5_carriedBy_34 : decode cX5_carriedBy 34 = .ok (.ldc2_w 20, 3) := by decide +kernel
theorem dX5_carriedBy_37 : decode cX5_carriedBy 37 = .ok (.ldiv, 1) := by decide +kernel
theorem dX5_carriedBy_38 : decode cX5_carriedBy 38 = .ok (.lstore_n 2, 1) := by decide +kernel
theorem dX5_carriedBy_39 : decode cX5_carriedBy 39 = .ok (.iinc 6 1, 3) := by decide +kernel
theorem dX5_carriedBy_42 : decode cX5_carriedBy 42 = .ok (.goto (-33), 3) := by decide +kernel
theorem dX5_carriedBy_45 : decode cX5_carriedBy 45 = .ok (.lload 4, 2) := by decide +kernel
theorem dX5_carriedBy_47 : decode cX5_carriedBy 47 = .ok (.lreturn, 1) := by decide +kernel
theorem dX5_pullFor_0 : decode cX5_pullFor 0 = .ok (.iload_n 1, 1) := by decide +kernel
theorem dX5_pullFor_1 : decode cX5_pullFor 1 = .ok (.istore_n 2, 1) := by decide +kernel
theorem dX5_pullFor_2 : decode cX5_pullFor 2 = .ok (.ldc 22, 2) := by decide +kernel
theorem dX5_pullFor_4 : decode cX5_pullFor 4 = .ok (.istore_n 3, 1) := by decide +kernel
theorem dX5_pullFor_5 : decode cX5_pullFor 5 = .ok (.iload_n 3, 1) := by decide +kernel
theorem dX5_pullFor_6 : decode cX5_pullFor 6 = .ok (.ifCond .le 32, 3) := by decide +kernel
theorem dX5_pullFor_9 : decode cX5_pullFor 9 = .ok (.iload_n 2, 1) := by decide +kernel
theorem dX5_pullFor_10 : decode cX5_pullFor 10 = .ok (.iload_n 3, 1) := by decide +kernel
theorem dX5_pullFor_11 : decode cX5_pullFor 11 = .ok (.if_icmp .lt 20, 3) := by decide +kernel
theorem dX5_pullFor_14 : decode cX5_pullFor 14 = .ok (.aload_n 0, 1) := by decide +kernel
theorem dX5_pullFor_15 : decode cX5_pullFor 15 = .ok (.iload_n 2, 1) := by decide +kernel
theorem dX5_pullFor_16 : decode cX5_pullFor 16 = .ok (.iload_n 3, 1) := by decide +kernel
theorem dX5_pullFor_17 : decode cX5_pullFor 17 = .ok (.isub, 1) := by decide +kernel
theorem dX5_pullFor_18 : decode cX5_pullFor 18 = .ok (.invokevirtual 23, 3) := by decide +kernel
theorem dX5_pullFor_21 : decode cX5_pullFor 21 = .ok (.iload_n 1, 1) := by decide +kernel
theorem dX5_pullFor_22 : decode cX5_pullFor 22 = .ok (.i2l, 1) := by decide +kernel
theorem dX5_pullFor_23 : decode cX5_pullFor 23 = .ok (.lcmp, 1) := by decide +kernel
theorem dX5_pullFor_24 : decode cX5_pullFor 24 = .ok (.ifCond .lt 7, 3) := by decide +kernel
theorem dX5_pullFor_27 : decode cX5_pullFor 27 = .ok (.iload_n 2, 1) := by decide +kernel
theorem dX5_pullFor_28 : decode cX5_pullFor 28 = .ok (.iload_n 3, 1) := by decide +kernel
theorem dX5_pullFor_29 : decode cX5_pullFor 29 = .ok (.isub, 1) := by decide +kernel
theorem dX5_pullFor_30 : decode cX5_pullFor 30 = .ok (.istore_n 2, 1) := by decide +kernel
theorem dX5_pullFor_31 : decode cX5_pullFor 31 = .ok (.iload_n 3, 1) := by decide +kernel
theorem dX5_pullFor_32 : decode cX5_pullFor 32 = .ok (.iconst 2, 1) := by decide +kernel
theorem dX5_pullFor_33 : decode cX5_pullFor 33 = .ok (.idiv, 1) := by decide +kernel
theorem dX5_pullFor_34 : decode cX5_pullFor 34 = .ok (.istore_n 3, 1) := by decide +kernel
theorem dX5_pullFor_35 : decode cX5_pullFor 35 = .ok (.goto (-30), 3) := by decide +kernel
theorem dX5_pullFor_38 : decode cX5_pullFor 38 = .ok (.iload_n 2, 1) := by decide +kernel
theorem dX5_pullFor_39 : decode cX5_pullFor 39 = .ok (.ireturn, 1) := by decide +kernel
theorem dX5_mayBear_0 : decode cX5_mayBear 0 = .ok (.aload_n 0, 1) := by decide +kernel
theorem dX5_mayBear_1 : decode cX5_mayBear 1 = .ok (.getfield 7, 3) := by decide +kernel
theorem dX5_mayBear_4 : decode cX5_mayBear 4 = .ok (.invokevirtual 27, 3) := by decide +kernel
theorem dX5_mayBear_7 : decode cX5_mayBear 7 = .ok (.ifCond .eq 22, 3) := by decide +kernel
theorem dX5_mayBear_10 : decode cX5_mayBear 10 = .ok (.aload_n 0, 1) := by decide +kernel
theorem dX5_mayBear_11 : decode cX5_mayBear 11 = .ok (.iload_n 1, 1) := by decide +kernel
theorem dX5_mayBear_12 : decode cX5_mayBear 12 = .ok (.invokevirtual 33, 3) := by decide +kernel
theorem dX5_mayBear_15 : decode cX5_mayBear 15 = .ok (.aload_n 0, 1) := by decide +kernel
theorem dX5_mayBear_16 : decode cX5_mayBear 16 = .ok (.getfield 7, 3) := by decide +kernel
theorem dX5_mayBear_19 : decode cX5_mayBear 19 = .ok (.invokevirtual 37, 3) := by decide +kernel
theorem dX5_mayBear_22 : decode cX5_mayBear 22 = .ok (.if_icmp .gt 7, 3) := by decide +kernel
theorem dX5_mayBear_25 : decode cX5_mayBear 25 = .ok (.iconst 1, 1) := by decide +kernel
theorem dX5_mayBear_26 : decode cX5_mayBear 26 = .ok (.goto 4, 3) := by decide +kernel
theorem dX5_mayBear_29 : decode cX5_mayBear 29 = .ok (.iconst 0, 1) := by decide +kernel
theorem dX5_mayBear_30 : decode cX5_mayBear 30 = .ok (.ireturn, 1) := by decide +kernel
theorem dX6_init_0 : decode cX6_init 0 = .ok (.aload_n 0, 1) := by decide +kernel
theorem dX6_init_1 : decode cX6_init 1 = .ok (.invokespecial 1, 3) := by decide +kernel
theorem dX6_init_4 : decode cX6_init 4 = .ok (.aload_n 0, 1) := by decide +kernel
theorem dX6_init_5 : decode cX6_init 5 = .ok (.iconst 4, 1) := by decide +kernel
theorem dX6_init_6 : decode cX6_init 6 = .ok (.anewarray 9, 3) := by decide +kernel
theorem dX6_init_9 : decode cX6_init 9 = .ok (.putfield 11, 3) := by decide +kernel
theorem dX6_init_12 : decode cX6_init 12 = .ok (.aload_n 0, 1) := by decide +kernel
theorem dX6_init_13 : decode cX6_init 13 = .ok (.bipush 60, 2) := by decide +kernel
theorem dX6_init_15 : decode cX6_init 15 = .ok (.anewarray 15, 3) := by decide +kernel
theorem dX6_init_18 : decode cX6_init 18 = .ok (.putfield 17, 3) := by decide +kernel
theorem dX6_init_21 : decode cX6_init 21 = .ok (.aload_n 0, 1) := by decide +kernel
theorem dX6_init_22 : decode cX6_init 22 = .ok (.bipush 12, 2) := by decide +kernel
theorem dX6_init_24 : decode cX6_init 24 = .ok (.anewarray 21, 3) := by decide +kernel
theorem dX6_init_27 : decode cX6_init 27 = .ok (.putfield 23, 3) := by decide +kernel
theorem dX6_init_30 : decode cX6_init 30 = .ok (.aload_n 0, 1) := by decide +kernel
theorem dX6_init_31 : decode cX6_init 31 = .ok (.new 27, 3) := by decide +kernel
theorem dX6_init_34 : decode cX6_init 34 = .ok (.dup, 1) := by decide +kernel
theorem dX6_init_35 : decode cX6_init 35 = .ok (.invokespecial 29, 3) := by decide +kernel
theorem dX6_init_38 : decode cX6_init 38 = .ok (.putfield 30, 3) := by decide +kernel
theorem dX6_init_41 : decode cX6_init 41 = .ok (.aload_n 0, 1) := by decide +kernel
theorem dX6_init_42 : decode cX6_init 42 = .ok (.iconst 5, 1) := by decide +kernel
theorem dX6_init_43 : decode cX6_init 43 = .ok (.anewarray 34, 3) := by decide +kernel
theorem dX6_init_46 : decode cX6_init 46 = .ok (.putfield 36, 3) := by decide +kernel
theorem dX6_init_49 : decode cX6_init 49 = .ok (.aload_n 0, 1) := by decide +kernel
theorem dX6_init_50 : decode cX6_init 50 = .ok (.new 40, 3) := by decide +kernel
theorem dX6_init_53 : decode cX6_init 53 = .ok (.dup, 1) := by decide +kernel
theorem dX6_init_54 : decode cX6_init 54 = .ok (.invokespecial 42, 3) := by decide +kernel
theorem dX6_init_57 : decode cX6_init 57 = .ok (.putfield 43, 3) := by decide +kernel
theorem dX6_init_60 : decode cX6_init 60 = .ok (.iconst 0, 1) := by decide +kernel
theorem dX6_init_61 : decode cX6_init 61 = .ok (.istore_n 1, 1) := by decide +kernel
theorem dX6_init_62 : decode cX6_init 62 = .ok (.iload_n 1, 1) := by decide +kernel
theorem dX6_init_63 : decode cX6_init 63 = .ok (.aload_n 0, 1) := by decide +kernel
theorem dX6_init_64 : decode cX6_init 64 = .ok (.getfield 11, 3) := by decide +kernel
theorem dX6_init_67 : decode cX6_init 67 = .ok (.arraylength, 1) := by decide +kernel
theorem dX6_init_68 : decode cX6_init 68 = .ok (.if_icmp .ge 22, 3) := by decide +kernel
theorem dX6_init_71 : decode cX6_init 71 = .ok (.aload_n 0, 1) := by decide +kernel
theorem dX6_init_72 : decode cX6_init 72 = .ok (.getfield 11, 3) := by decide +kernel
theorem dX6_init_75 : decode cX6_init 75 = .ok (.iload_n 1, 1) := by decide +kernel
theorem dX6_init_76 : decode cX6_init 76 = .ok (.new 9, 3) := by decide +kernel
theorem dX6_init_79 : decode cX6_init 79 = .ok (.dup, 1) := by decide +kernel
theorem dX6_init_80 : decode cX6_init 80 = .ok (.invokespecial 47, 3) := by decide +kernel
theorem dX6_init_83 : decode cX6_init 83 = .ok (.aastore, 1) := by decide +kernel
theorem dX6_init_84 : decode cX6_init 84 = .ok (.iinc 1 1, 3) := by decide +kernel
theorem dX6_init_87 : decode cX6_init 87 = .ok (.goto (-25), 3) := by decide +kernel
theorem dX6_init_90 : decode cX6_init 90 = .ok (.return_, 1) := by decide +kernel
theorem dX6_fibre_0 : decode cX6_fibre 0 = .ok (.aload_n 0, 1) := by decide +kernel
theorem dX6_fibre_1 : decode cX6_fibre 1 = .ok (.iload_n 1, 1) := by decide +kernel
theorem dX6_fibre_2 : decode cX6_fibre 2 = .ok (.invokevirtual 48, 3) := by decide +kernel
theorem dX6_fibre_5 : decode cX6_fibre 5 = .ok (.astore 4, 2) := by decide +kernel
theorem dX6_fibre_7 : decode cX6_fibre 7 = .ok (.iload_n 2, 1) := by decide +kernel
theorem dX6_fibre_8 : decode cX6_fibre 8 = .ok (.iconst 1, 1) := by decide +kernel
theorem dX6_fibre_9 : decode cX6_fibre 9 = .ok (.sipush 1000, 3) := by decide +kernel
theorem dX6_fibre_12 : decode cX6_fibre 12 = .ok (.invokestatic 52, 3) := by decide +kernel
theorem dX6_fibre_15 : decode cX6_fibre 15 = .ok (.iload_n 3, 1) := by decide +kernel
theorem dX6_fibre_16 : decode cX6_fibre 16 = .ok (.iconst 1, 1) := by decide +kernel
theorem dX6_fibre_17 : decode cX6_fibre 17 = .ok (.bipush 100, 2) := by decide +kernel
theorem dX6_fibre_19 : decode cX6_fibre 19 = .ok (.invokestatic 52, 3) := by decide +kernel
theorem dX6_fibre_22 : decode cX6_fibre 22 = .ok (.aload 4, 2) := by decide +kernel
theorem dX6_fibre_24 : decode cX6_fibre 24 = .ok (.iload_n 2, 1) := by decide +kernel
theorem dX6_fibre_25 : decode cX6_fibre 25 = .ok (.putfield 56, 3) := by decide +kernel
theorem dX6_fibre_28 : decode cX6_fibre 28 = .ok (.aload 4, 2) := by decide +kernel
theorem dX6_fibre_30 : decode cX6_fibre 30 = .ok (.iload_n 3, 1) := by decide +kernel
theorem dX6_fibre_31 : decode cX6_fibre 31 = .ok (.putfield 60, 3) := by decide +kernel
theorem dX6_fibre_34 : decode cX6_fibre 34 = .ok (.return_, 1) := by decide +kernel
theorem dX6_spin_0 : decode cX6_spin 0 = .ok (.aload_n 0, 1) := by decide +kernel
theorem dX6_spin_1 : decode cX6_spin 1 = .ok (.iload_n 1, 1) := by decide +kernel
theorem dX6_spin_2 : decode cX6_spin 2 = .ok (.invokevirtual 48, 3) := by decide +kernel
theorem dX6_spin_5 : decode cX6_spin 5 = .ok (.astore 5, 2) := by decide +kernel
theorem dX6_spin_7 : decode cX6_spin 7 = .ok (.iload_n 2, 1) := by decide +kernel
theorem dX6_spin_8 : decode cX6_spin 8 = .ok (.iconst 1, 1) := by decide +kernel
theorem dX6_spin_9 : decode cX6_spin 9 = .ok (.bipush 30, 2) := by decide +kernel
theorem dX6_spin_11 : decode cX6_spin 11 = .ok (.invokestatic 52, 3) := by decide +kernel
theorem dX6_spin_14 : decode cX6_spin 14 = .ok (.iload_n 3, 1) := by decide +kernel
theorem dX6_spin_15 : decode cX6_spin 15 = .ok (.iconst 0, 1) := by decide +kernel
theorem dX6_spin_16 : decode cX6_spin 16 = .ok (.iconst 1, 1) := by decide +kernel
theorem dX6_spin_17 : decode cX6_spin 17 = .ok (.invokestatic 52, 3) := by decide +kernel
theorem dX6_spin_20 : decode cX6_spin 20 = .ok (.iload 4, 2) := by decide +kernel
theorem dX6_spin_22 : decode cX6_spin 22 = .ok (.iconst 1, 1) := by decide +kernel
theorem dX6_spin_23 : decode cX6_spin 23 = .ok (.sipush 10000, 3) := by decide +kernel
theorem dX6_spin_26 : decode cX6_spin 26 = .ok (.invokestatic 52, 3) := by decide +kernel
theorem dX6_spin_29 : decode cX6_spin 29 = .ok (.aload_n 0, 1) := by decide +kernel
theorem dX6_spin_30 : decode cX6_spin 30 = .ok (.invokevirtual 63, 3) := by decide +kernel
theorem dX6_spin_33 : decode cX6_spin 33 = .ok (.aload_n 0, 1) := by decide +kernel
theorem dX6_spin_34 : decode cX6_spin 34 = .ok (.aload 5, 2) := by decide +kernel
theorem dX6_spin_36 : decode cX6_spin 36 = .ok (.iload_n 2, 1) := by decide +kernel
theorem dX6_spin_37 : decode cX6_spin 37 = .ok (.iload_n 3, 1) := by decide +kernel
theorem dX6_spin_38 : decode cX6_spin 38 = .ok (.iload 4, 2) := by decide +kernel
theorem dX6_spin_40 : decode cX6_spin 40 = .ok (.invokestatic 66, 3) := by decide +kernel
theorem dX6_spin_43 : decode cX6_spin 43 = .ok (.invokevirtual 70, 3) := by decide +kernel
theorem dX6_spin_46 : decode cX6_spin 46 = .ok (.ireturn, 1) := by decide +kernel
theorem dX6_lay_0 : decode cX6_lay 0 = .ok (.aload_n 0, 1) := by decide +kernel
theorem dX6_lay_1 : decode cX6_lay 1 = .ok (.iload_n 1, 1) := by decide +kernel
theorem dX6_lay_2 : decode cX6_lay 2 = .ok (.invokevirtual 74, 3) := by decide +kernel
theorem dX6_lay_5 : decode cX6_lay 5 = .ok (.astore 5, 2) := by decide +kernel
theorem dX6_lay_7 : decode cX6_lay 7 = .ok (.aload_n 0, 1) := by decide +kernel
theorem dX6_lay_8 : decode cX6_lay 8 = .ok (.iload_n 2, 1) := by decide +kernel
theorem dX6_lay_9 : decode cX6_lay 9 = .ok (.invokevirtual 74, 3) := by decide +kernel
theorem dX6_lay_12 : decode cX6_lay 12 = .ok (.astore 6, 2) := by decide +kernel
theorem dX6_lay_14 : decode cX6_lay 14 = .ok (.aload_n 0, 1) := by decide +kernel
theorem dX6_lay_15 : decode cX6_lay 15 = .ok (.iload_n 3, 1) := by decide +kernel
theorem dX6_lay_16 : decode cX6_lay 16 = .ok (.invokevirtual 74, 3) := by decide +kernel
theorem dX6_lay_19 : decode cX6_lay 19 = .ok (.astore 7, 2) := by decide +kernel
theorem dX6_lay_21 : decode cX6_lay 21 = .ok (.iload_n 1, 1) := by decide +kernel
theorem dX6_lay_22 : decode cX6_lay 22 = .ok (.iload_n 2, 1) := by decide +kernel
theorem dX6_lay_23 : decode cX6_lay 23 = .ok (.invokestatic 78, 3) := by decide +kernel
theorem dX6_lay_26 : decode cX6_lay 26 = .ok (.iload_n 1, 1) := by decide +kernel
theorem dX6_lay_27 : decode cX6_lay 27 = .ok (.iload_n 3, 1) := by decide +kernel
theorem dX6_lay_28 : decode cX6_lay 28 = .ok (.invokestatic 78, 3) := by decide +kernel
theorem dX6_lay_31 : decode cX6_lay 31 = .ok (.iload_n 2, 1) := by decide +kernel
theorem dX6_lay_32 : decode cX6_lay 32 = .ok (.iload_n 3, 1) := by decide +kernel
theorem dX6_lay_33 : decode cX6_lay 33 = .ok (.invokestatic 78, 3) := by decide +kernel
theorem dX6_lay_36 : decode cX6_lay 36 = .ok (.iload 4, 2) := by decide +kernel
theorem dX6_lay_38 : decode cX6_lay 38 = .ok (.iconst 1, 1) := by decide +kernel
theorem dX6_lay_39 : decode cX6_lay 39 = .ok (.bipush 30, 2) := by decide +kernel
theorem dX6_lay_41 : decode cX6_lay 41 = .ok (.invokestatic 52, 3) := by decide +kernel
theorem dX6_lay_44 : decode cX6_lay 44 = .ok (.aload 5, 2) := by decide +kernel
theorem dX6_lay_46 : decode cX6_lay 46 = .ok (.invokevirtual 82, 3) := by decide +kernel
theorem dX6_lay_49 : decode cX6_lay 49 = .ok (.ifCond .eq 23, 3) := by decide +kernel
theorem dX6_lay_52 : decode cX6_lay 52 = .ok (.aload 6, 2) := by decide +kernel
theorem dX6_lay_54 : decode cX6_lay 54 = .ok (.invokevirtual 82, 3) := by decide +kernel
theorem dX6_lay_57 : decode cX6_lay 57 = .ok (.ifCond .eq 15, 3) := by decide +kernel
theorem dX6_lay_60 : decode cX6_lay 60 = .ok (.aload 7, 2) := by decide +kernel
theorem dX6_lay_62 : decode cX6_lay 62 = .ok (.invokevirtual 82, 3) := by decide +kernel
theorem dX6_lay_65 : decode cX6_lay 65 = .ok (.ifCond .eq 7, 3) := by decide +kernel
theorem dX6_lay_68 : decode cX6_lay 68 = .ok (.iconst 1, 1) := by decide +kernel
theorem dX6_lay_69 : decode cX6_lay 69 = .ok (.goto 4, 3) := by decide +kernel
theorem dX6_lay_72 : decode cX6_lay 72 = .ok (.iconst 0, 1) := by decide +kernel
theorem dX6_lay_73 : decode cX6_lay 73 = .ok (.invokestatic 86, 3) := by decide +kernel
theorem dX6_lay_76 : decode cX6_lay 76 = .ok (.aload 5, 2) := by decide +kernel
theorem dX6_lay_78 : decode cX6_lay 78 = .ok (.aload 6, 2) := by decide +kernel
theorem dX6_lay_80 : decode cX6_lay 80 = .ok (.invokevirtual 90, 3) := by decide +kernel
theorem dX6_lay_83 : decode cX6_lay 83 = .ok (.ifCond .eq 26, 3) := by decide +kernel
theorem dX6_lay_86 : decode cX6_lay 86 = .ok (.aload 5, 2) := by decide +kernel
theorem dX6_lay_88 : decode cX6_lay 88 = .ok (.aload 7, 2) := by decide +kernel
theorem dX6_lay_90 : decode cX6_lay 90 = .ok (.invokevirtual 90, 3) := by decide +kernel
theorem dX6_lay_93 : decode cX6_lay 93 = .ok (.ifCond .eq 16, 3) := by decide +kernel
theorem dX6_lay_96 : decode cX6_lay 96 = .ok (.aload 5, 2) := by decide +kernel
theorem dX6_lay_98 : decode cX6_lay 98 = .ok (.getfield 94, 3) := by decide +kernel
theorem dX6_lay_101 : decode cX6_lay 101 = .ok (.iconst 3, 1) := by decide +kernel
theorem dX6_lay_102 : decode cX6_lay 102 = .ok (.if_icmp .eq 7, 3) := by decide +kernel
theorem dX6_lay_105 : decode cX6_lay 105 = .ok (.iconst 1, 1) := by decide +kernel
theorem dX6_lay_106 : decode cX6_lay 106 = .ok (.goto 4, 3) := by decide +kernel
theorem dX6_lay_109 : decode cX6_lay 109 = .ok (.iconst 0, 1) := by decide +kernel
theorem dX6_lay_110 : decode cX6_lay 110 = .ok (.invokestatic 86, 3) := by decide +kernel
theorem dX6_lay_113 : decode cX6_lay 113 = .ok (.aload 5, 2) := by decide +kernel
theorem dX6_lay_115 : decode cX6_lay 115 = .ok (.aload 6, 2) := by decide +kernel
theorem dX6_lay_117 : decode cX6_lay 117 = .ok (.aload 7, 2) := by decide +kernel
theorem dX6_lay_119 : decode cX6_lay 119 = .ok (.iload 4, 2) := by decide +kernel
theorem dX6_lay_121 : decode cX6_lay 121 = .ok (.invokestatic 97, 3) := by decide +kernel
theorem dX6_lay_124 : decode cX6_lay 124 = .ok (.ifCond .le 7, 3) := by decide +kernel
theorem dX6_lay_127 : decode cX6_lay 127 = .ok (.iconst 1, 1) := by decide +kernel
theorem dX6_lay_128 : decode cX6_lay 128 = .ok (.goto 4, 3) := by decide +kernel
theorem dX6_lay_131 : decode cX6_lay 131 = .ok (.iconst 0, 1) := by decide +kernel
theorem dX6_lay_132 : decode cX6_lay 132 = .ok (.invokestatic 86, 3) := by decide +kernel
theorem dX6_lay_135 : decode cX6_lay 135 = .ok (.aload_n 0, 1) := by decide +kernel
theorem dX6_lay_136 : decode cX6_lay 136 = .ok (.invokevirtual 63, 3) := by decide +kernel
theorem dX6_lay_139 : decode cX6_lay 139 = .ok (.aload_n 0, 1) := by decide +kernel
theorem dX6_lay_140 : decode cX6_lay 140 = .ok (.aload 5, 2) := by decide +kernel
theorem dX6_lay_142 : decode cX6_lay 142 = .ok (.aload 6, 2) := by decide +kernel
theorem dX6_lay_144 : decode cX6_lay 144 = .ok (.aload 7, 2) := by decide +kernel
theorem dX6_lay_146 : decode cX6_lay 146 = .ok (.iload 4, 2) := by decide +kernel
theorem dX6_lay_148 : decode cX6_lay 148 = .ok (.invokestatic 101, 3) := by decide +kernel
theorem dX6_lay_151 : decode cX6_lay 151 = .ok (.invokevirtual 70, 3) := by decide +kernel
theorem dX6_lay_154 : decode cX6_lay 154 = .ok (.ireturn, 1) := by decide +kernel
theorem dX6_cut_0 : decode cX6_cut 0 = .ok (.aload_n 0, 1) := by decide +kernel
theorem dX6_cut_1 : decode cX6_cut 1 = .ok (.iload_n 1, 1) := by decide +kernel
theorem dX6_cut_2 : decode cX6_cut 2 = .ok (.invokevirtual 74, 3) := by decide +kernel
theorem dX6_cut_5 : decode cX6_cut 5 = .ok (.astore_n 3, 1) := by decide +kernel
theorem dX6_cut_6 : decode cX6_cut 6 = .ok (.iload_n 2, 1) := by decide +kernel
theorem dX6_cut_7 : decode cX6_cut 7 = .ok (.iconst 1, 1) := by decide +kernel
theorem dX6_cut_8 : decode cX6_cut 8 = .ok (.aload_n 3, 1) := by decide +kernel
theorem dX6_cut_9 : decode cX6_cut 9 = .ok (.getfield 105, 3) := by decide +kernel
theorem dX6_cut_12 : decode cX6_cut 12 = .ok (.invokestatic 52, 3) := by decide +kernel
theorem dX6_cut_15 : decode cX6_cut 15 = .ok (.aload_n 3, 1) := by decide +kernel
theorem dX6_cut_16 : decode cX6_cut 16 = .ok (.invokevirtual 106, 3) := by decide +kernel
theorem dX6_cut_19 : decode cX6_cut 19 = .ok (.invokestatic 86, 3) := by decide +kernel
theorem dX6_cut_22 : decode cX6_cut 22 = .ok (.aload_n 0, 1) := by decide +kernel
theorem dX6_cut_23 : decode cX6_cut 23 = .ok (.invokevirtual 63, 3) := by decide +kernel
theorem dX6_cut_26 : decode cX6_cut 26 = .ok (.aload_n 0, 1) := by decide +kernel
theorem dX6_cut_27 : decode cX6_cut 27 = .ok (.aload_n 3, 1) := by decide +kernel
theorem dX6_cut_28 : decode cX6_cut 28 = .ok (.iload_n 2, 1) := by decide +kernel
theorem dX6_cut_29 : decode cX6_cut 29 = .ok (.invokevirtual 109, 3) := by decide +kernel
theorem dX6_cut_32 : decode cX6_cut 32 = .ok (.invokevirtual 70, 3) := by decide +kernel
theorem dX6_cut_35 : decode cX6_cut 35 = .ok (.ireturn, 1) := by decide +kernel
theorem dX6_order_0 : decode cX6_order 0 = .ok (.iload_n 1, 1) := by decide +kernel
theorem dX6_order_1 : decode cX6_order 1 = .ok (.iconst 0, 1) := by decide +kernel
theorem dX6_order_2 : decode cX6_order 2 = .ok (.iconst 3, 1) := by decide +kernel
theorem dX6_order_3 : decode cX6_order 3 = .ok (.invokestatic 52, 3) := by decide +kernel
theorem dX6_order_6 : decode cX6_order 6 = .ok (.iload_n 2, 1) := by decide +kernel
theorem dX6_order_7 : decode cX6_order 7 = .ok (.iconst 1, 1) := by decide +kernel
theorem dX6_order_8 : decode cX6_order 8 = .ok (.sipush 10000, 3) := by decide +kernel
theorem dX6_order_11 : decode cX6_order 11 = .ok (.invokestatic 52, 3) := by decide +kernel
theorem dX6_order_14 : decode cX6_order 14 = .ok (.aload_n 0, 1) := by decide +kernel
theorem dX6_order_15 : decode cX6_order 15 = .ok (.invokevirtual 63, 3) := by decide +kernel
theorem dX6_order_18 : decode cX6_order 18 = .ok (.aload_n 0, 1) := by decide +kernel
theorem dX6_order_19 : decode cX6_order 19 = .ok (.iload_n 1, 1) := by decide +kernel
theorem dX6_order_20 : decode cX6_order 20 = .ok (.iload_n 2, 1) := by decide +kernel
theorem dX6_order_21 : decode cX6_order 21 = .ok (.invokevirtual 112, 3) := by decide +kernel
theorem dX6_order_24 : decode cX6_order 24 = .ok (.astore_n 3, 1) := by decide +kernel
theorem dX6_order_25 : decode cX6_order 25 = .ok (.aload_n 3, 1) := by decide +kernel
theorem dX6_order_26 : decode cX6_order 26 = .ok (.ifnonnull 7, 3) := by decide +kernel
theorem dX6_order_29 : decode cX6_order 29 = .ok (.iconst (-1), 1) := by decide +kernel
theorem dX6_order_30 : decode cX6_order 30 = .ok (.goto 12, 3) := by decide +kernel
theorem dX6_order_33 : decode cX6_order 33 = .ok (.aload_n 0, 1) := by decide +kernel
theorem dX6_order_34 : decode cX6_order 34 = .ok (.aload_n 3, 1) := by decide +kernel
theorem dX6_order_35 : decode cX6_order 35 = .ok (.iload_n 2, 1) := by decide +kernel
theorem dX6_order_36 : decode cX6_order 36 = .ok (.invokevirtual 109, 3) := by decide +kernel
theorem dX6_order_39 : decode cX6_order 39 = .ok (.invokevirtual 70, 3) := by decide +kernel
theorem dX6_order_42 : decode cX6_order 42 = .ok (.ireturn, 1) := by decide +kernel
theorem dX6_splice_0 : decode cX6_splice 0 = .ok (.aload_n 0, 1) := by decide +kernel
theorem dX6_splice_1 : decode cX6_splice 1 = .ok (.iload_n 1, 1) := by decide +kernel
theorem dX6_splice_2 : decode cX6_splice 2 = .ok (.invokevirtual 74, 3) := by decide +kernel
theorem dX6_splice_5 : decode cX6_splice 5 = .ok (.astore 4, 2) := by decide +kernel
theorem dX6_splice_7 : decode cX6_splice 7 = .ok (.aload_n 0, 1) := by decide +kernel
theorem dX6_splice_8 : decode cX6_splice 8 = .ok (.iload_n 2, 1) := by decide +kernel
theorem dX6_splice_9 : decode cX6_splice 9 = .ok (.invokevirtual 74, 3) := by decide +kernel
theorem dX6_splice_12 : decode cX6_splice 12 = .ok (.astore 5, 2) := by decide +kernel
theorem dX6_splice_14 : decode cX6_splice 14 = .ok (.iload_n 1, 1) := by decide +kernel
theorem dX6_splice_15 : decode cX6_splice 15 = .ok (.iload_n 2, 1) := by decide +kernel
theorem dX6_splice_16 : decode cX6_splice 16 = .ok (.invokestatic 78, 3) := by decide +kernel
theorem dX6_splice_19 : decode cX6_splice 19 = .ok (.iload_n 3, 1) := by decide +kernel
theorem dX6_splice_20 : decode cX6_splice 20 = .ok (.iconst 2, 1) := by decide +kernel
theorem dX6_splice_21 : decode cX6_splice 21 = .ok (.bipush 6, 2) := by decide +kernel
theorem dX6_splice_23 : decode cX6_splice 23 = .ok (.invokestatic 52, 3) := by decide +kernel
theorem dX6_splice_26 : decode cX6_splice 26 = .ok (.aload 4, 2) := by decide +kernel
theorem dX6_splice_28 : decode cX6_splice 28 = .ok (.invokevirtual 106, 3) := by decide +kernel
theorem dX6_splice_31 : decode cX6_splice 31 = .ok (.ifCond .eq 15, 3) := by decide +kernel
theorem dX6_splice_34 : decode cX6_splice 34 = .ok (.aload 5, 2) := by decide +kernel
theorem dX6_splice_36 : decode cX6_splice 36 = .ok (.invokevirtual 106, 3) := by decide +kernel
theorem dX6_splice_39 : decode cX6_splice 39 = .ok (.ifCond .eq 7, 3) := by decide +kernel
theorem dX6_splice_42 : decode cX6_splice 42 = .ok (.iconst 1, 1) := by decide +kernel
theorem dX6_splice_43 : decode cX6_splice 43 = .ok (.goto 4, 3) := by decide +kernel
theorem dX6_splice_46 : decode cX6_splice 46 = .ok (.iconst 0, 1) := by decide +kernel
theorem dX6_splice_47 : decode cX6_splice 47 = .ok (.invokestatic 86, 3) := by decide +kernel
theorem dX6_splice_50 : decode cX6_splice 50 = .ok (.aload 4, 2) := by decide +kernel
theorem dX6_splice_52 : decode cX6_splice 52 = .ok (.aload 5, 2) := by decide +kernel
theorem dX6_splice_54 : decode cX6_splice 54 = .ok (.invokevirtual 90, 3) := by decide +kernel
theorem dX6_splice_57 : decode cX6_splice 57 = .ok (.invokestatic 86, 3) := by decide +kernel
theorem dX6_splice_60 : decode cX6_splice 60 = .ok (.aload 4, 2) := by decide +kernel
theorem dX6_splice_62 : decode cX6_splice 62 = .ok (.aload 5, 2) := by decide +kernel
theorem dX6_splice_64 : decode cX6_splice 64 = .ok (.iload_n 3, 1) := by decide +kernel
theorem dX6_splice_65 : decode cX6_splice 65 = .ok (.invokestatic 116, 3) := by decide +kernel
theorem dX6_splice_68 : decode cX6_splice 68 = .ok (.ifCond .le 7, 3) := by decide +kernel
theorem dX6_splice_71 : decode cX6_splice 71 = .ok (.iconst 1, 1) := by decide +kernel
theorem dX6_splice_72 : decode cX6_splice 72 = .ok (.goto 4, 3) := by decide +kernel
theorem dX6_splice_75 : decode cX6_splice 75 = .ok (.iconst 0, 1) := by decide +kernel
theorem dX6_splice_76 : decode cX6_splice 76 = .ok (.invokestatic 86, 3) := by decide +kernel
theorem dX6_splice_79 : decode cX6_splice 79 = .ok (.aload_n 0, 1) := by decide +kernel
theorem dX6_splice_80 : decode cX6_splice 80 = .ok (.invokevirtual 63, 3) := by decide +kernel
theorem dX6_splice_83 : decode cX6_splice 83 = .ok (.aload_n 0, 1) := by decide +kernel
theorem dX6_splice_84 : decode cX6_splice 84 = .ok (.aload 4, 2) := by decide +kernel
theorem dX6_splice_86 : decode cX6_splice 86 = .ok (.aload 5, 2) := by decide +kernel
theorem dX6_splice_88 : decode cX6_splice 88 = .ok (.iload_n 3, 1) := by decide +kernel
theorem dX6_splice_89 : decode cX6_splice 89 = .ok (.invokestatic 120, 3) := by decide +kernel
theorem dX6_splice_92 : decode cX6_splice 92 = .ok (.invokevirtual 70, 3) := by decide +kernel
theorem dX6_splice_95 : decode cX6_splice 95 = .ok (.ireturn, 1) := by decide +kernel
theorem dX6_load_0 : decode cX6_load 0 = .ok (.aload_n 0, 1) := by decide +kernel
theorem dX6_load_1 : decode cX6_load 1 = .ok (.iload_n 1, 1) := by decide +kernel
theorem dX6_load_2 : decode cX6_load 2 = .ok (.invokevirtual 74, 3) := by decide +kernel
theorem dX6_load_5 : decode cX6_load 5 = .ok (.astore_n 3, 1) := by decide +kernel
theorem dX6_load_6 : decode cX6_load 6 = .ok (.iload_n 2, 1) := by decide +kernel
theorem dX6_load_7 : decode cX6_load 7 = .ok (.iconst 1, 1) := by decide +kernel
theorem dX6_load_8 : decode cX6_load 8 = .ok (.ldc 124, 2) := by decide +kernel
theorem dX6_load_10 : decode cX6_load 10 = .ok (.invokestatic 52, 3) := by decide +kernel
theorem dX6_load_13 : decode cX6_load 13 = .ok (.aload_n 3, 1) := by decide +kernel
theorem dX6_load_14 : decode cX6_load 14 = .ok (.invokevirtual 106, 3) := by decide +kernel
theorem dX6_load_17 : decode cX6_load 17 = .ok (.invokestatic 86, 3) := by decide +kernel
theorem dX6_load_20 : decode cX6_load 20 = .ok (.aload_n 3, 1) := by decide +kernel
theorem dX6_load_21 : decode cX6_load 21 = .ok (.iload_n 2, 1) := by decide +kernel
theorem dX6_load_22 : decode cX6_load 22 = .ok (.invokevirtual 125, 3) := by decide +kernel
theorem dX6_load_25 : decode cX6_load 25 = .ok (.aload_n 3, 1) := by decide +kernel
theorem dX6_load_26 : decode cX6_load 26 = .ok (.getfield 129, 3) := by decide +kernel
theorem dX6_load_29 : decode cX6_load 29 = .ok (.iconst 2, 1) := by decide +kernel
theorem dX6_load_30 : decode cX6_load 30 = .ok (.if_icmp .ne 7, 3) := by decide +kernel
theorem dX6_load_33 : decode cX6_load 33 = .ok (.iconst (-1), 1) := by decide +kernel
theorem dX6_load_34 : decode cX6_load 34 = .ok (.goto 7, 3) := by decide +kernel
theorem dX6_load_37 : decode cX6_load 37 = .ok (.aload_n 3, 1) := by decide +kernel
theorem dX6_load_38 : decode cX6_load 38 = .ok (.getfield 132, 3) := by decide +kernel
theorem dX6_load_41 : decode cX6_load 41 = .ok (.ireturn, 1) := by decide +kernel
theorem dX6_sun_0 : decode cX6_sun 0 = .ok (.iload_n 1, 1) := by decide +kernel
theorem dX6_sun_1 : decode cX6_sun 1 = .ok (.iconst 1, 1) := by decide +kernel
theorem dX6_sun_2 : decode cX6_sun 2 = .ok (.sipush 1000, 3) := by decide +kernel
theorem dX6_sun_5 : decode cX6_sun 5 = .ok (.invokestatic 52, 3) := by decide +kernel
theorem dX6_sun_8 : decode cX6_sun 8 = .ok (.iconst 0, 1) := by decide +kernel
theorem dX6_sun_9 : decode cX6_sun 9 = .ok (.istore_n 2, 1) := by decide +kernel
theorem dX6_sun_10 : decode cX6_sun 10 = .ok (.aload_n 0, 1) := by decide +kernel
theorem dX6_sun_11 : decode cX6_sun 11 = .ok (.getfield 17, 3) := by decide +kernel
theorem dX6_sun_14 : decode cX6_sun 14 = .ok (.astore_n 3, 1) := by decide +kernel
theorem dX6_sun_15 : decode cX6_sun 15 = .ok (.aload_n 3, 1) := by decide +kernel
theorem dX6_sun_16 : decode cX6_sun 16 = .ok (.arraylength, 1) := by decide +kernel
theorem dX6_sun_17 : decode cX6_sun 17 = .ok (.istore 4, 2) := by decide +kernel
theorem dX6_sun_19 : decode cX6_sun 19 = .ok (.iconst 0, 1) := by decide +kernel
theorem dX6_sun_20 : decode cX6_sun 20 = .ok (.istore 5, 2) := by decide +kernel
theorem dX6_sun_22 : decode cX6_sun 22 = .ok (.iload 5, 2) := by decide +kernel
theorem dX6_sun_24 : decode cX6_sun 24 = .ok (.iload 4, 2) := by decide +kernel
theorem dX6_sun_26 : decode cX6_sun 26 = .ok (.if_icmp .ge 53, 3) := by decide +kernel
theorem dX6_sun_29 : decode cX6_sun 29 = .ok (.aload_n 3, 1) := by decide +kernel
theorem dX6_sun_30 : decode cX6_sun 30 = .ok (.iload 5, 2) := by decide +kernel
theorem dX6_sun_32 : decode cX6_sun 32 = .ok (.aaload, 1) := by decide +kernel
theorem dX6_sun_33 : decode cX6_sun 33 = .ok (.astore 6, 2) := by decide +kernel
theorem dX6_sun_35 : decode cX6_sun 35 = .ok (.aload 6, 2) := by decide +kernel
theorem dX6_sun_37 : decode cX6_sun 37 = .ok (.ifnull 36, 3) := by decide +kernel
theorem dX6_sun_40 : decode cX6_sun 40 = .ok (.aload 6, 2) := by decide +kernel
theorem dX6_sun_42 : decode cX6_sun 42 = .ok (.invokevirtual 82, 3) := by decide +kernel
theorem dX6_sun_45 : decode cX6_sun 45 = .ok (.ifCond .eq 28, 3) := by decide +kernel
theorem dX6_sun_48 : decode cX6_sun 48 = .ok (.aload 6, 2) := by decide +kernel
theorem dX6_sun_50 : decode cX6_sun 50 = .ok (.iload_n 1, 1) := by decide +kernel
theorem dX6_sun_51 : decode cX6_sun 51 = .ok (.bipush 10, 2) := by decide +kernel
theorem dX6_sun_53 : decode cX6_sun 53 = .ok (.idiv, 1) := by decide +kernel
theorem dX6_sun_54 : decode cX6_sun 54 = .ok (.invokevirtual 135, 3) := by decide +kernel
theorem dX6_sun_57 : decode cX6_sun 57 = .ok (.iload_n 2, 1) := by decide +kernel
theorem dX6_sun_58 : decode cX6_sun 58 = .ok (.aload 6, 2) := by decide +kernel
theorem dX6_sun_60 : decode cX6_sun 60 = .ok (.invokevirtual 82, 3) := by decide +kernel
theorem dX6_sun_63 : decode cX6_sun 63 = .ok (.ifCond .eq 7, 3) := by decide +kernel
theorem dX6_sun_66 : decode cX6_sun 66 = .ok (.iconst 0, 1) := by decide +kernel
theorem dX6_sun_67 : decode cX6_sun 67 = .ok (.goto 4, 3) := by decide +kernel
theorem dX6_sun_70 : decode cX6_sun 70 = .ok (.iconst 1, 1) := by decide +kernel
theorem dX6_sun_71 : decode cX6_sun 71 = .ok (.iadd, 1) := by decide +kernel
theorem dX6_sun_72 : decode cX6_sun 72 = .ok (.istore_n 2, 1) := by decide +kernel
theorem dX6_sun_73 : decode cX6_sun 73 = .ok (.iinc 5 1, 3) := by decide +kernel
theorem dX6_sun_76 : decode cX6_sun 76 = .ok (.goto (-54), 3) := by decide +kernel
theorem dX6_sun_79 : decode cX6_sun 79 = .ok (.iload_n 2, 1) := by decide +kernel
theorem dX6_sun_80 : decode cX6_sun 80 = .ok (.ireturn, 1) := by decide +kernel
theorem dX6_lineOf_0 : decode cX6_lineOf 0 = .ok (.aload_n 0, 1) := by decide +kernel
theorem dX6_lineOf_1 : decode cX6_lineOf 1 = .ok (.iload_n 1, 1) := by decide +kernel
theorem dX6_lineOf_2 : decode cX6_lineOf 2 = .ok (.invokevirtual 74, 3) := by decide +kernel
theorem dX6_lineOf_5 : decode cX6_lineOf 5 = .ok (.astore_n 3, 1) := by decide +kernel
theorem dX6_lineOf_6 : decode cX6_lineOf 6 = .ok (.iload_n 2, 1) := by decide +kernel
theorem dX6_lineOf_7 : decode cX6_lineOf 7 = .ok (.iconst 0, 1) := by decide +kernel
theorem dX6_lineOf_8 : decode cX6_lineOf 8 = .ok (.bipush 9, 2) := by decide +kernel
theorem dX6_lineOf_10 : decode cX6_lineOf 10 = .ok (.invokestatic 52, 3) := by decide +kernel
theorem dX6_lineOf_13 : decode cX6_lineOf 13 = .ok (.aload_n 3, 1) := by decide +kernel
theorem dX6_lineOf_14 : decode cX6_lineOf 14 = .ok (.iload_n 2, 1) := by decide +kernel
theorem dX6_lineOf_15 : decode cX6_lineOf 15 = .ok (.invokevirtual 138, 3) := by decide +kernel
theorem dX6_lineOf_18 : decode cX6_lineOf 18 = .ok (.ireturn, 1) := by decide +kernel
theorem dX6_yarns_0 : decode cX6_yarns 0 = .ok (.aload_n 0, 1) := by decide +kernel
theorem dX6_yarns_1 : decode cX6_yarns 1 = .ok (.iload_n 1, 1) := by decide +kernel
theorem dX6_yarns_2 : decode cX6_yarns 2 = .ok (.invokevirtual 74, 3) := by decide +kernel
theorem dX6_yarns_5 : decode cX6_yarns 5 = .ok (.iconst 0, 1) := by decide +kernel
theorem dX6_yarns_6 : decode cX6_yarns 6 = .ok (.invokestatic 142, 3) := by decide +kernel
theorem dX6_yarns_9 : decode cX6_yarns 9 = .ok (.ireturn, 1) := by decide +kernel
theorem dX6_rig_0 : decode cX6_rig 0 = .ok (.aload_n 0, 1) := by decide +kernel
theorem dX6_rig_1 : decode cX6_rig 1 = .ok (.iload_n 1, 1) := by decide +kernel
theorem dX6_rig_2 : decode cX6_rig 2 = .ok (.invokevirtual 74, 3) := by decide +kernel
theorem dX6_rig_5 : decode cX6_rig 5 = .ok (.astore 4, 2) := by decide +kernel
theorem dX6_rig_7 : decode cX6_rig 7 = .ok (.iload_n 2, 1) := by decide +kernel
theorem dX6_rig_8 : decode cX6_rig 8 = .ok (.iconst 1, 1) := by decide +kernel
theorem dX6_rig_9 : decode cX6_rig 9 = .ok (.bipush 6, 2) := by decide +kernel
theorem dX6_rig_11 : decode cX6_rig 11 = .ok (.invokestatic 52, 3) := by decide +kernel
theorem dX6_rig_14 : decode cX6_rig 14 = .ok (.iload_n 3, 1) := by decide +kernel
theorem dX6_rig_15 : decode cX6_rig 15 = .ok (.iconst 0, 1) := by decide +kernel
theorem dX6_rig_16 : decode cX6_rig 16 = .ok (.bipush 50, 2) := by decide +kernel
theorem dX6_rig_18 : decode cX6_rig 18 = .ok (.invokestatic 52, 3) := by decide +kernel
theorem dX6_rig_21 : decode cX6_rig 21 = .ok (.aload 4, 2) := by decide +kernel
theorem dX6_rig_23 : decode cX6_rig 23 = .ok (.invokevirtual 106, 3) := by decide +kernel
theorem dX6_rig_26 : decode cX6_rig 26 = .ok (.invokestatic 86, 3) := by decide +kernel
theorem dX6_rig_29 : decode cX6_rig 29 = .ok (.aload_n 0, 1) := by decide +kernel
theorem dX6_rig_30 : decode cX6_rig 30 = .ok (.getfield 146, 3) := by decide +kernel
theorem dX6_rig_33 : decode cX6_rig 33 = .ok (.aload_n 0, 1) := by decide +kernel
theorem dX6_rig_34 : decode cX6_rig 34 = .ok (.getfield 23, 3) := by decide +kernel
theorem dX6_rig_37 : decode cX6_rig 37 = .ok (.arraylength, 1) := by decide +kernel
theorem dX6_rig_38 : decode cX6_rig 38 = .ok (.if_icmp .ge 7, 3) := by decide +kernel
theorem dX6_rig_41 : decode cX6_rig 41 = .ok (.iconst 1, 1) := by decide +kernel
theorem dX6_rig_42 : decode cX6_rig 42 = .ok (.goto 4, 3) := by decide +kernel
theorem dX6_rig_45 : decode cX6_rig 45 = .ok (.iconst 0, 1) := by decide +kernel
theorem dX6_rig_46 : decode cX6_rig 46 = .ok (.invokestatic 86, 3) := by decide +kernel
theorem dX6_rig_49 : decode cX6_rig 49 = .ok (.aload_n 0, 1) := by decide +kernel
theorem dX6_rig_50 : decode cX6_rig 50 = .ok (.new 21, 3) := by decide +kernel
theorem dX6_rig_53 : decode cX6_rig 53 = .ok (.dup, 1) := by decide +kernel
theorem dX6_rig_54 : decode cX6_rig 54 = .ok (.aload 4, 2) := by decide +kernel
theorem dX6_rig_56 : decode cX6_rig 56 = .ok (.iload_n 2, 1) := by decide +kernel
theorem dX6_rig_57 : decode cX6_rig 57 = .ok (.iload_n 3, 1) := by decide +kernel
theorem dX6_rig_58 : decode cX6_rig 58 = .ok (.invokespecial 149, 3) := by decide +kernel
theorem dX6_rig_61 : decode cX6_rig 61 = .ok (.invokevirtual 152, 3) := by decide +kernel
theorem dX6_rig_64 : decode cX6_rig 64 = .ok (.ireturn, 1) := by decide +kernel
theorem dX6_pull_0 : decode cX6_pull 0 = .ok (.aload_n 0, 1) := by decide +kernel
theorem dX6_pull_1 : decode cX6_pull 1 = .ok (.iload_n 1, 1) := by decide +kernel
theorem dX6_pull_2 : decode cX6_pull 2 = .ok (.invokevirtual 156, 3) := by decide +kernel
theorem dX6_pull_5 : decode cX6_pull 5 = .ok (.astore_n 3, 1) := by decide +kernel
theorem dX6_pull_6 : decode cX6_pull 6 = .ok (.iload_n 2, 1) := by decide +kernel
theorem dX6_pull_7 : decode cX6_pull 7 = .ok (.iconst 0, 1) := by decide +kernel
theorem dX6_pull_8 : decode cX6_pull 8 = .ok (.ldc 124, 2) := by decide +kernel
theorem dX6_pull_10 : decode cX6_pull 10 = .ok (.invokestatic 52, 3) := by decide +kernel
theorem dX6_pull_13 : decode cX6_pull 13 = .ok (.aload_n 3, 1) := by decide +kernel
theorem dX6_pull_14 : decode cX6_pull 14 = .ok (.iload_n 2, 1) := by decide +kernel
theorem dX6_pull_15 : decode cX6_pull 15 = .ok (.invokevirtual 160, 3) := by decide +kernel
theorem dX6_pull_18 : decode cX6_pull 18 = .ok (.ireturn, 1) := by decide +kernel
theorem dX6_lift_0 : decode cX6_lift 0 = .ok (.aload_n 0, 1) := by decide +kernel
theorem dX6_lift_1 : decode cX6_lift 1 = .ok (.iload_n 1, 1) := by decide +kernel
theorem dX6_lift_2 : decode cX6_lift 2 = .ok (.invokevirtual 156, 3) := by decide +kernel
theorem dX6_lift_5 : decode cX6_lift 5 = .ok (.astore_n 3, 1) := by decide +kernel
theorem dX6_lift_6 : decode cX6_lift 6 = .ok (.iload_n 2, 1) := by decide +kernel
theorem dX6_lift_7 : decode cX6_lift 7 = .ok (.iconst 1, 1) := by decide +kernel
theorem dX6_lift_8 : decode cX6_lift 8 = .ok (.ldc 124, 2) := by decide +kernel
theorem dX6_lift_10 : decode cX6_lift 10 = .ok (.invokestatic 52, 3) := by decide +kernel
theorem dX6_lift_13 : decode cX6_lift 13 = .ok (.aload_n 3, 1) := by decide +kernel
theorem dX6_lift_14 : decode cX6_lift 14 = .ok (.iload_n 2, 1) := by decide +kernel
theorem dX6_lift_15 : decode cX6_lift 15 = .ok (.invokevirtual 163, 3) := by decide +kernel
theorem dX6_lift_18 : decode cX6_lift 18 = .ok (.istore 4, 2) := by decide +kernel
theorem dX6_lift_20 : decode cX6_lift 20 = .ok (.iload 4, 2) := by decide +kernel
theorem dX6_lift_22 : decode cX6_lift 22 = .ok (.ifCond .eq 15, 3) := by decide +kernel
theorem dX6_lift_25 : decode cX6_lift 25 = .ok (.aload_n 3, 1) := by decide +kernel
theorem dX6_lift_26 : decode cX6_lift 26 = .ok (.getfield 167, 3) := by decide +kernel
theorem dX6_lift_29 : decode cX6_lift 29 = .ok (.aload_n 3, 1) := by decide +kernel
theorem dX6_lift_30 : decode cX6_lift 30 = .ok (.iload_n 2, 1) := by decide +kernel
theorem dX6_lift_31 : decode cX6_lift 31 = .ok (.invokevirtual 160, 3) := by decide +kernel
theorem dX6_lift_34 : decode cX6_lift 34 = .ok (.invokevirtual 125, 3) := by decide +kernel
theorem dX6_lift_37 : decode cX6_lift 37 = .ok (.iload 4, 2) := by decide +kernel
theorem dX6_lift_39 : decode cX6_lift 39 = .ok (.ireturn, 1) := by decide +kernel
theorem dX6_series_0 : decode cX6_series 0 = .ok (.aload_n 0, 1) := by decide +kernel
theorem dX6_series_1 : decode cX6_series 1 = .ok (.iload_n 1, 1) := by decide +kernel
theorem dX6_series_2 : decode cX6_series 2 = .ok (.invokevirtual 156, 3) := by decide +kernel
theorem dX6_series_5 : decode cX6_series 5 = .ok (.astore 4, 2) := by decide +kernel
theorem dX6_series_7 : decode cX6_series 7 = .ok (.aload_n 0, 1) := by decide +kernel
theorem dX6_series_8 : decode cX6_series 8 = .ok (.iload_n 2, 1) := by decide +kernel
theorem dX6_series_9 : decode cX6_series 9 = .ok (.invokevirtual 156, 3) := by decide +kernel
theorem dX6_series_12 : decode cX6_series 12 = .ok (.astore 5, 2) := by decide +kernel
theorem dX6_series_14 : decode cX6_series 14 = .ok (.iload_n 1, 1) := by decide +kernel
theorem dX6_series_15 : decode cX6_series 15 = .ok (.iload_n 2, 1) := by decide +kernel
theorem dX6_series_16 : decode cX6_series 16 = .ok (.invokestatic 78, 3) := by decide +kernel
theorem dX6_series_19 : decode cX6_series 19 = .ok (.iload_n 3, 1) := by decide +kernel
theorem dX6_series_20 : decode cX6_series 20 = .ok (.iconst 0, 1) := by decide +kernel
theorem dX6_series_21 : decode cX6_series 21 = .ok (.ldc 124, 2) := by decide +kernel
theorem dX6_series_23 : decode cX6_series 23 = .ok (.invokestatic 52, 3) := by decide +kernel
theorem dX6_series_26 : decode cX6_series 26 = .ok (.aload 5, 2) := by decide +kernel
theorem dX6_series_28 : decode cX6_series 28 = .ok (.iload_n 3, 1) := by decide +kernel
theorem dX6_series_29 : decode cX6_series 29 = .ok (.invokevirtual 160, 3) := by decide +kernel
theorem dX6_series_32 : decode cX6_series 32 = .ok (.istore 6, 2) := by decide +kernel
theorem dX6_series_34 : decode cX6_series 34 = .ok (.aload 5, 2) := by decide +kernel
theorem dX6_series_36 : decode cX6_series 36 = .ok (.iload_n 3, 1) := by decide +kernel
theorem dX6_series_37 : decode cX6_series 37 = .ok (.invokevirtual 163, 3) := by decide +kernel
theorem dX6_series_40 : decode cX6_series 40 = .ok (.ifCond .eq 13, 3) := by decide +kernel
theorem dX6_series_43 : decode cX6_series 43 = .ok (.aload 4, 2) := by decide +kernel
theorem dX6_series_45 : decode cX6_series 45 = .ok (.iload 6, 2) := by decide +kernel
theorem dX6_series_47 : decode cX6_series 47 = .ok (.invokevirtual 163, 3) := by decide +kernel
theorem dX6_series_50 : decode cX6_series 50 = .ok (.ifCond .ne 5, 3) := by decide +kernel
theorem dX6_series_53 : decode cX6_series 53 = .ok (.iconst (-1), 1) := by decide +kernel
theorem dX6_series_54 : decode cX6_series 54 = .ok (.ireturn, 1) := by decide +kernel
theorem dX6_series_55 : decode cX6_series 55 = .ok (.aload 4, 2) := by decide +kernel
theorem dX6_series_57 : decode cX6_series 57 = .ok (.iload 6, 2) := by decide +kernel
theorem dX6_series_59 : decode cX6_series 59 = .ok (.invokevirtual 160, 3) := by decide +kernel
theorem dX6_series_62 : decode cX6_series 62 = .ok (.ireturn, 1) := by decide +kernel
theorem dX6_holds_0 : decode cX6_holds 0 = .ok (.iload_n 1, 1) := by decide +kernel
theorem dX6_holds_1 : decode cX6_holds 1 = .ok (.iconst 0, 1) := by decide +kernel
theorem dX6_holds_2 : decode cX6_holds 2 = .ok (.bipush 20, 2) := by decide +kernel
theorem dX6_holds_4 : decode cX6_holds 4 = .ok (.invokestatic 52, 3) := by decide +kernel
theorem dX6_holds_7 : decode cX6_holds 7 = .ok (.iload_n 2, 1) := by decide +kernel
theorem dX6_holds_8 : decode cX6_holds 8 = .ok (.iconst 0, 1) := by decide +kernel
theorem dX6_holds_9 : decode cX6_holds 9 = .ok (.bipush 100, 2) := by decide +kernel
theorem dX6_holds_11 : decode cX6_holds 11 = .ok (.invokestatic 52, 3) := by decide +kernel
theorem dX6_holds_14 : decode cX6_holds 14 = .ok (.iload_n 3, 1) := by decide +kernel
theorem dX6_holds_15 : decode cX6_holds 15 = .ok (.iconst 0, 1) := by decide +kernel
theorem dX6_holds_16 : decode cX6_holds 16 = .ok (.sipush 1000, 3) := by decide +kernel
theorem dX6_holds_19 : decode cX6_holds 19 = .ok (.invokestatic 52, 3) := by decide +kernel
theorem dX6_holds_22 : decode cX6_holds 22 = .ok (.iload 4, 2) := by decide +kernel
theorem dX6_holds_24 : decode cX6_holds 24 = .ok (.iconst 0, 1) := by decide +kernel
theorem dX6_holds_25 : decode cX6_holds 25 = .ok (.bipush 50, 2) := by decide +kernel
theorem dX6_holds_27 : decode cX6_holds 27 = .ok (.invokestatic 52, 3) := by decide +kernel
theorem dX6_holds_30 : decode cX6_holds 30 = .ok (.iload_n 3, 1) := by decide +kernel
theorem dX6_holds_31 : decode cX6_holds 31 = .ok (.i2l, 1) := by decide +kernel
theorem dX6_holds_32 : decode cX6_holds 32 = .ok (.lstore 5, 2) := by decide +kernel
theorem dX6_holds_34 : decode cX6_holds 34 = .ok (.iconst 0, 1) := by decide +kernel
theorem dX6_holds_35 : decode cX6_holds 35 = .ok (.istore 7, 2) := by decide +kernel
theorem dX6_holds_37 : decode cX6_holds 37 = .ok (.iload 7, 2) := by decide +kernel
theorem dX6_holds_39 : decode cX6_holds 39 = .ok (.iload 4, 2) := by decide +kernel
theorem dX6_holds_41 : decode cX6_holds 41 = .ok (.if_icmp .ge 20, 3) := by decide +kernel
theorem dX6_holds_44 : decode cX6_holds 44 = .ok (.lload 5, 2) := by decide +kernel
theorem dX6_holds_46 : decode cX6_holds 46 = .ok (.lload 5, 2) := by decide +kernel
theorem dX6_holds_48 : decode cX6_holds 48 = .ok (.ldc2_w 171, 3) := by decide +kernel
theorem dX6_holds_51 : decode cX6_holds 51 = .ok (.ldiv, 1) := by decide +kernel
theorem dX6_holds_52 : decode cX6_holds 52 = .ok (.lsub, 1) := by decide +kernel
theorem dX6_holds_53 : decode cX6_holds 53 = .ok (.lstore 5, 2) := by decide +kernel
theorem dX6_holds_55 : decode cX6_holds 55 = .ok (.iinc 7 1, 3) := by decide +kernel
theorem dX6_holds_58 : decode cX6_holds 58 = .ok (.goto (-21), 3) := by decide +kernel
theorem dX6_holds_61 : decode cX6_holds 61 = .ok (.iconst 0, 1) := by decide +kernel
theorem dX6_holds_62 : decode cX6_holds 62 = .ok (.istore 7, 2) := by decide +kernel
theorem dX6_holds_64 : decode cX6_holds 64 = .ok (.iload 7, 2) := by decide +kernel
theorem dX6_holds_66 : decode cX6_holds 66 = .ok (.iload_n 1, 1) := by decide +kernel
theorem dX6_holds_67 : decode cX6_holds 67 = .ok (.if_icmp .ge 23, 3) := by decide +kernel
theorem dX6_holds_70 : decode cX6_holds 70 = .ok (.lload 5, 2) := by decide +kernel
theorem dX6_holds_72 : decode cX6_holds 72 = .ok (.bipush 100, 2) := by decide +kernel
theorem dX6_holds_74 : decode cX6_holds 74 = .ok (.iload_n 2, 1) := by decide +kernel
theorem dX6_holds_75 : decode cX6_holds 75 = .ok (.iadd, 1) := by decide +kernel
theorem dX6_holds_76 : decode cX6_holds 76 = .ok (.i2l, 1) := by decide +kernel
theorem dX6_holds_77 : decode cX6_holds 77 = .ok (.lmul, 1) := by decide +kernel
theorem dX6_holds_78 : decode cX6_holds 78 = .ok (.ldc2_w 173, 3) := by decide +kernel
theorem dX6_holds_81 : decode cX6_holds 81 = .ok (.ldiv, 1) := by decide +kernel
theorem dX6_holds_82 : decode cX6_holds 82 = .ok (.lstore 5, 2) := by decide +kernel
theorem dX6_holds_84 : decode cX6_holds 84 = .ok (.iinc 7 1, 3) := by decide +kernel
theorem dX6_holds_87 : decode cX6_holds 87 = .ok (.goto (-23), 3) := by decide +kernel
theorem dX6_holds_90 : decode cX6_holds 90 = .ok (.lload 5, 2) := by decide +kernel
theorem dX6_holds_92 : decode cX6_holds 92 = .ok (.ldc2_w 175, 3) := by decide +kernel
theorem dX6_holds_95 : decode cX6_holds 95 = .ok (.invokestatic 177, 3) := by decide +kernel
theorem dX6_holds_98 : decode cX6_holds 98 = .ok (.lreturn, 1) := by decide +kernel
theorem dX6_braid_0 : decode cX6_braid 0 = .ok (.iload_n 1, 1) := by decide +kernel
theorem dX6_braid_1 : decode cX6_braid 1 = .ok (.iconst 3, 1) := by decide +kernel
theorem dX6_braid_2 : decode cX6_braid 2 = .ok (.bipush 8, 2) := by decide +kernel
theorem dX6_braid_4 : decode cX6_braid 4 = .ok (.invokestatic 52, 3) := by decide +kernel
theorem dX6_braid_7 : decode cX6_braid 7 = .ok (.aload_n 0, 1) := by decide +kernel
theorem dX6_braid_8 : decode cX6_braid 8 = .ok (.getfield 30, 3) := by decide +kernel
theorem dX6_braid_11 : decode cX6_braid 11 = .ok (.getfield 183, 3) := by decide +kernel
theorem dX6_braid_14 : decode cX6_braid 14 = .ok (.istore_n 2, 1) := by decide +kernel
theorem dX6_braid_15 : decode cX6_braid 15 = .ok (.aload_n 0, 1) := by decide +kernel
theorem dX6_braid_16 : decode cX6_braid 16 = .ok (.getfield 30, 3) := by decide +kernel
theorem dX6_braid_19 : decode cX6_braid 19 = .ok (.iload_n 1, 1) := by decide +kernel
theorem dX6_braid_20 : decode cX6_braid 20 = .ok (.invokevirtual 186, 3) := by decide +kernel
theorem dX6_braid_23 : decode cX6_braid 23 = .ok (.iload_n 2, 1) := by decide +kernel
theorem dX6_braid_24 : decode cX6_braid 24 = .ok (.ireturn, 1) := by decide +kernel
theorem dX6_cross_0 : decode cX6_cross 0 = .ok (.iload_n 1, 1) := by decide +kernel
theorem dX6_cross_1 : decode cX6_cross 1 = .ok (.aload_n 0, 1) := by decide +kernel
theorem dX6_cross_2 : decode cX6_cross 2 = .ok (.getfield 30, 3) := by decide +kernel
theorem dX6_cross_5 : decode cX6_cross 5 = .ok (.getfield 189, 3) := by decide +kernel
theorem dX6_cross_8 : decode cX6_cross 8 = .ok (.iconst 1, 1) := by decide +kernel
theorem dX6_cross_9 : decode cX6_cross 9 = .ok (.isub, 1) := by decide +kernel
theorem dX6_cross_10 : decode cX6_cross 10 = .ok (.invokestatic 192, 3) := by decide +kernel
theorem dX6_cross_13 : decode cX6_cross 13 = .ok (.aload_n 0, 1) := by decide +kernel
theorem dX6_cross_14 : decode cX6_cross 14 = .ok (.getfield 30, 3) := by decide +kernel
theorem dX6_cross_17 : decode cX6_cross 17 = .ok (.getfield 183, 3) := by decide +kernel
theorem dX6_cross_20 : decode cX6_cross 20 = .ok (.bipush 60, 2) := by decide +kernel
theorem dX6_cross_22 : decode cX6_cross 22 = .ok (.if_icmp .ge 7, 3) := by decide +kernel
theorem dX6_cross_25 : decode cX6_cross 25 = .ok (.iconst 1, 1) := by decide +kernel
theorem dX6_cross_26 : decode cX6_cross 26 = .ok (.goto 4, 3) := by decide +kernel
theorem dX6_cross_29 : decode cX6_cross 29 = .ok (.iconst 0, 1) := by decide +kernel
theorem dX6_cross_30 : decode cX6_cross 30 = .ok (.invokestatic 86, 3) := by decide +kernel
theorem dX6_cross_33 : decode cX6_cross 33 = .ok (.aload_n 0, 1) := by decide +kernel
theorem dX6_cross_34 : decode cX6_cross 34 = .ok (.getfield 30, 3) := by decide +kernel
theorem dX6_cross_37 : decode cX6_cross 37 = .ok (.iload_n 1, 1) := by decide +kernel
theorem dX6_cross_38 : decode cX6_cross 38 = .ok (.iload_n 2, 1) := by decide +kernel
theorem dX6_cross_39 : decode cX6_cross 39 = .ok (.invokevirtual 195, 3) := by decide +kernel
theorem dX6_cross_42 : decode cX6_cross 42 = .ok (.aload_n 0, 1) := by decide +kernel
theorem dX6_cross_43 : decode cX6_cross 43 = .ok (.getfield 30, 3) := by decide +kernel
theorem dX6_cross_46 : decode cX6_cross 46 = .ok (.getfield 183, 3) := by decide +kernel
theorem dX6_cross_49 : decode cX6_cross 49 = .ok (.ireturn, 1) := by decide +kernel
theorem dX6_carrier_0 : decode cX6_carrier 0 = .ok (.iload_n 1, 1) := by decide +kernel
theorem dX6_carrier_1 : decode cX6_carrier 1 = .ok (.aload_n 0, 1) := by decide +kernel
theorem dX6_carrier_2 : decode cX6_carrier 2 = .ok (.getfield 30, 3) := by decide +kernel
theorem dX6_carrier_5 : decode cX6_carrier 5 = .ok (.getfield 189, 3) := by decide +kernel
theorem dX6_carrier_8 : decode cX6_carrier 8 = .ok (.invokestatic 192, 3) := by decide +kernel
theorem dX6_carrier_11 : decode cX6_carrier 11 = .ok (.aload_n 0, 1) := by decide +kernel
theorem dX6_carrier_12 : decode cX6_carrier 12 = .ok (.getfield 30, 3) := by decide +kernel
theorem dX6_carrier_15 : decode cX6_carrier 15 = .ok (.iload_n 1, 1) := by decide +kernel
theorem dX6_carrier_16 : decode cX6_carrier 16 = .ok (.invokevirtual 199, 3) := by decide +kernel
theorem dX6_carrier_19 : decode cX6_carrier 19 = .ok (.ireturn, 1) := by decide +kernel
theorem dX6_orderOf_0 : decode cX6_orderOf 0 = .ok (.aload_n 0, 1) := by decide +kernel
theorem dX6_orderOf_1 : decode cX6_orderOf 1 = .ok (.getfield 30, 3) := by decide +kernel
theorem dX6_orderOf_4 : decode cX6_orderOf 4 = .ok (.invokevirtual 202, 3) := by decide +kernel
theorem dX6_orderOf_7 : decode cX6_orderOf 7 = .ok (.ireturn, 1) := by decide +kernel
theorem dX6_orderAnew_0 : decode cX6_orderAnew 0 = .ok (.aload_n 0, 1) := by decide +kernel
theorem dX6_orderAnew_1 : decode cX6_orderAnew 1 = .ok (.getfield 30, 3) := by decide +kernel
theorem dX6_orderAnew_4 : decode cX6_orderAnew 4 = .ok (.invokevirtual 206, 3) := by decide +kernel
theorem dX6_orderAnew_7 : decode cX6_orderAnew 7 = .ok (.ireturn, 1) := by decide +kernel
theorem dX6_over_0 : decode cX6_over 0 = .ok (.iload_n 1, 1) := by decide +kernel
theorem dX6_over_1 : decode cX6_over 1 = .ok (.aload_n 0, 1) := by decide +kernel
theorem dX6_over_2 : decode cX6_over 2 = .ok (.getfield 30, 3) := by decide +kernel
theorem dX6_over_5 : decode cX6_over 5 = .ok (.getfield 189, 3) := by decide +kernel
theorem dX6_over_8 : decode cX6_over 8 = .ok (.invokestatic 192, 3) := by decide +kernel
theorem dX6_over_11 : decode cX6_over 11 = .ok (.iload_n 2, 1) := by decide +kernel
theorem dX6_over_12 : decode cX6_over 12 = .ok (.aload_n 0, 1) := by decide +kernel
theorem dX6_over_13 : decode cX6_over 13 = .ok (.getfield 30, 3) := by decide +kernel
theorem dX6_over_16 : decode cX6_over 16 = .ok (.getfield 189, 3) := by decide +kernel
theorem dX6_over_19 : decode cX6_over 19 = .ok (.invokestatic 192, 3) := by decide +kernel
theorem dX6_over_22 : decode cX6_over 22 = .ok (.iload_n 1, 1) := by decide +kernel
theorem dX6_over_23 : decode cX6_over 23 = .ok (.iload_n 2, 1) := by decide +kernel
theorem dX6_over_24 : decode cX6_over 24 = .ok (.invokestatic 78, 3) := by decide +kernel
theorem dX6_over_27 : decode cX6_over 27 = .ok (.aload_n 0, 1) := by decide +kernel
theorem dX6_over_28 : decode cX6_over 28 = .ok (.getfield 30, 3) := by decide +kernel
theorem dX6_over_31 : decode cX6_over 31 = .ok (.iload_n 1, 1) := by decide +kernel
theorem dX6_over_32 : decode cX6_over 32 = .ok (.iload_n 2, 1) := by decide +kernel
theorem dX6_over_33 : decode cX6_over 33 = .ok (.invokevirtual 209, 3) := by decide +kernel
theorem dX6_over_36 : decode cX6_over 36 = .ok (.ireturn, 1) := by decide +kernel
theorem dX6_net_0 : decode cX6_net 0 = .ok (.iload_n 1, 1) := by decide +kernel
theorem dX6_net_1 : decode cX6_net 1 = .ok (.iconst 1, 1) := by decide +kernel
theorem dX6_net_2 : decode cX6_net 2 = .ok (.bipush 10, 2) := by decide +kernel
theorem dX6_net_4 : decode cX6_net 4 = .ok (.invokestatic 52, 3) := by decide +kernel
theorem dX6_net_7 : decode cX6_net 7 = .ok (.iload_n 2, 1) := by decide +kernel
theorem dX6_net_8 : decode cX6_net 8 = .ok (.iconst 1, 1) := by decide +kernel
theorem dX6_net_9 : decode cX6_net 9 = .ok (.bipush 10, 2) := by decide +kernel
theorem dX6_net_11 : decode cX6_net 11 = .ok (.invokestatic 52, 3) := by decide +kernel
theorem dX6_net_14 : decode cX6_net 14 = .ok (.aload_n 0, 1) := by decide +kernel
theorem dX6_net_15 : decode cX6_net 15 = .ok (.getfield 213, 3) := by decide +kernel
theorem dX6_net_18 : decode cX6_net 18 = .ok (.aload_n 0, 1) := by decide +kernel
theorem dX6_net_19 : decode cX6_net 19 = .ok (.getfield 36, 3) := by decide +kernel
theorem dX6_net_22 : decode cX6_net 22 = .ok (.arraylength, 1) := by decide +kernel
theorem dX6_net_23 : decode cX6_net 23 = .ok (.if_icmp .ge 7, 3) := by decide +kernel
theorem dX6_net_26 : decode cX6_net 26 = .ok (.iconst 1, 1) := by decide +kernel
theorem dX6_net_27 : decode cX6_net 27 = .ok (.goto 4, 3) := by decide +kernel
theorem dX6_net_30 : decode cX6_net 30 = .ok (.iconst 0, 1) := by decide +kernel
theorem dX6_net_31 : decode cX6_net 31 = .ok (.invokestatic 86, 3) := by decide +kernel
theorem dX6_net_34 : decode cX6_net 34 = .ok (.aload_n 0, 1) := by decide +kernel
theorem dX6_net_35 : decode cX6_net 35 = .ok (.new 34, 3) := by decide +kernel
theorem dX6_net_38 : decode cX6_net 38 = .ok (.dup, 1) := by decide +kernel
theorem dX6_net_39 : decode cX6_net 39 = .ok (.iload_n 1, 1) := by decide +kernel
theorem dX6_net_40 : decode cX6_net 40 = .ok (.iload_n 2, 1) := by decide +kernel
theorem dX6_net_41 : decode cX6_net 41 = .ok (.invokespecial 216, 3) := by decide +kernel
theorem dX6_net_44 : decode cX6_net 44 = .ok (.invokevirtual 218, 3) := by decide +kernel
theorem dX6_net_47 : decode cX6_net 47 = .ok (.ireturn, 1) := by decide +kernel
theorem dX6_tear_0 : decode cX6_tear 0 = .ok (.aload_n 0, 1) := by decide +kernel
theorem dX6_tear_1 : decode cX6_tear 1 = .ok (.iload_n 1, 1) := by decide +kernel
theorem dX6_tear_2 : decode cX6_tear 2 = .ok (.invokevirtual 222, 3) := by decide +kernel
theorem dX6_tear_5 : decode cX6_tear 5 = .ok (.astore 5, 2) := by decide +kernel
theorem dX6_tear_7 : decode cX6_tear 7 = .ok (.aload 5, 2) := by decide +kernel
theorem dX6_tear_9 : decode cX6_tear 9 = .ok (.iload_n 2, 1) := by decide +kernel
theorem dX6_tear_10 : decode cX6_tear 10 = .ok (.iload_n 3, 1) := by decide +kernel
theorem dX6_tear_11 : decode cX6_tear 11 = .ok (.iload 4, 2) := by decide +kernel
theorem dX6_tear_13 : decode cX6_tear 13 = .ok (.invokevirtual 226, 3) := by decide +kernel
theorem dX6_tear_16 : decode cX6_tear 16 = .ok (.ifCond .ne 13, 3) := by decide +kernel
theorem dX6_tear_19 : decode cX6_tear 19 = .ok (.new 230, 3) := by decide +kernel
theorem dX6_tear_22 : decode cX6_tear 22 = .ok (.dup, 1) := by decide +kernel
theorem dX6_tear_23 : decode cX6_tear 23 = .ok (.ldc 232, 2) := by decide +kernel
theorem dX6_tear_25 : decode cX6_tear 25 = .ok (.invokespecial 234, 3) := by decide +kernel
theorem dX6_tear_28 : decode cX6_tear 28 = .ok (.athrow, 1) := by decide +kernel
theorem dX6_tear_29 : decode cX6_tear 29 = .ok (.aload 5, 2) := by decide +kernel
theorem dX6_tear_31 : decode cX6_tear 31 = .ok (.iload_n 2, 1) := by decide +kernel
theorem dX6_tear_32 : decode cX6_tear 32 = .ok (.iload 4, 2) := by decide +kernel
theorem dX6_tear_34 : decode cX6_tear 34 = .ok (.ifCond .eq 7, 3) := by decide +kernel
theorem dX6_tear_37 : decode cX6_tear 37 = .ok (.iload_n 3, 1) := by decide +kernel
theorem dX6_tear_38 : decode cX6_tear 38 = .ok (.goto 6, 3) := by decide +kernel
theorem dX6_tear_41 : decode cX6_tear 41 = .ok (.iload_n 3, 1) := by decide +kernel
theorem dX6_tear_42 : decode cX6_tear 42 = .ok (.iconst 1, 1) := by decide +kernel
theorem dX6_tear_43 : decode cX6_tear 43 = .ok (.isub, 1) := by decide +kernel
theorem dX6_tear_44 : decode cX6_tear 44 = .ok (.invokevirtual 237, 3) := by decide +kernel
theorem dX6_tear_47 : decode cX6_tear 47 = .ok (.invokestatic 86, 3) := by decide +kernel
theorem dX6_tear_50 : decode cX6_tear 50 = .ok (.aload 5, 2) := by decide +kernel
theorem dX6_tear_52 : decode cX6_tear 52 = .ok (.getfield 241, 3) := by decide +kernel
theorem dX6_tear_55 : decode cX6_tear 55 = .ok (.ireturn, 1) := by decide +kernel
theorem dX6_hole_0 : decode cX6_hole 0 = .ok (.aload_n 0, 1) := by decide +kernel
theorem dX6_hole_1 : decode cX6_hole 1 = .ok (.iload_n 1, 1) := by decide +kernel
theorem dX6_hole_2 : decode cX6_hole 2 = .ok (.invokevirtual 222, 3) := by decide +kernel
theorem dX6_hole_5 : decode cX6_hole 5 = .ok (.astore 6, 2) := by decide +kernel
theorem dX6_hole_7 : decode cX6_hole 7 = .ok (.iload_n 2, 1) := by decide +kernel
theorem dX6_hole_8 : decode cX6_hole 8 = .ok (.iconst 0, 1) := by decide +kernel
theorem dX6_hole_9 : decode cX6_hole 9 = .ok (.bipush 10, 2) := by decide +kernel
theorem dX6_hole_11 : decode cX6_hole 11 = .ok (.invokestatic 52, 3) := by decide +kernel
theorem dX6_hole_14 : decode cX6_hole 14 = .ok (.iload_n 3, 1) := by decide +kernel
theorem dX6_hole_15 : decode cX6_hole 15 = .ok (.iconst 0, 1) := by decide +kernel
theorem dX6_hole_16 : decode cX6_hole 16 = .ok (.bipush 10, 2) := by decide +kernel
theorem dX6_hole_18 : decode cX6_hole 18 = .ok (.invokestatic 52, 3) := by decide +kernel
theorem dX6_hole_21 : decode cX6_hole 21 = .ok (.iload 4, 2) := by decide +kernel
theorem dX6_hole_23 : decode cX6_hole 23 = .ok (.iload_n 2, 1) := by decide +kernel
theorem dX6_hole_24 : decode cX6_hole 24 = .ok (.bipush 10, 2) := by decide +kernel
theorem dX6_hole_26 : decode cX6_hole 26 = .ok (.invokestatic 52, 3) := by decide +kernel
theorem dX6_hole_29 : decode cX6_hole 29 = .ok (.iload 5, 2) := by decide +kernel
theorem dX6_hole_31 : decode cX6_hole 31 = .ok (.iload_n 3, 1) := by decide +kernel
theorem dX6_hole_32 : decode cX6_hole 32 = .ok (.bipush 10, 2) := by decide +kernel
theorem dX6_hole_34 : decode cX6_hole 34 = .ok (.invokestatic 52, 3) := by decide +kernel
theorem dX6_hole_37 : decode cX6_hole 37 = .ok (.aload 6, 2) := by decide +kernel
theorem dX6_hole_39 : decode cX6_hole 39 = .ok (.getfield 241, 3) := by decide +kernel
theorem dX6_hole_42 : decode cX6_hole 42 = .ok (.istore 7, 2) := by decide +kernel
theorem dX6_hole_44 : decode cX6_hole 44 = .ok (.aload 6, 2) := by decide +kernel
theorem dX6_hole_46 : decode cX6_hole 46 = .ok (.iload_n 2, 1) := by decide +kernel
theorem dX6_hole_47 : decode cX6_hole 47 = .ok (.iload_n 3, 1) := by decide +kernel
theorem dX6_hole_48 : decode cX6_hole 48 = .ok (.iload 4, 2) := by decide +kernel
theorem dX6_hole_50 : decode cX6_hole 50 = .ok (.iload 5, 2) := by decide +kernel
theorem dX6_hole_52 : decode cX6_hole 52 = .ok (.invokevirtual 244, 3) := by decide +kernel
theorem dX6_hole_55 : decode cX6_hole 55 = .ok (.aload 6, 2) := by decide +kernel
theorem dX6_hole_57 : decode cX6_hole 57 = .ok (.getfield 241, 3) := by decide +kernel
theorem dX6_hole_60 : decode cX6_hole 60 = .ok (.iload 7, 2) := by decide +kernel
theorem dX6_hole_62 : decode cX6_hole 62 = .ok (.isub, 1) := by decide +kernel
theorem dX6_hole_63 : decode cX6_hole 63 = .ok (.ireturn, 1) := by decide +kernel
theorem dX6_twines_0 : decode cX6_twines 0 = .ok (.aload_n 0, 1) := by decide +kernel
theorem dX6_twines_1 : decode cX6_twines 1 = .ok (.getfield 43, 3) := by decide +kernel
theorem dX6_twines_4 : decode cX6_twines 4 = .ok (.aload_n 0, 1) := by decide +kernel
theorem dX6_twines_5 : decode cX6_twines 5 = .ok (.iload_n 1, 1) := by decide +kernel
theorem dX6_twines_6 : decode cX6_twines 6 = .ok (.invokevirtual 222, 3) := by decide +kernel
theorem dX6_twines_9 : decode cX6_twines 9 = .ok (.invokevirtual 248, 3) := by decide +kernel
theorem dX6_twines_12 : decode cX6_twines 12 = .ok (.ireturn, 1) := by decide +kernel
theorem dX6_twinesAnew_0 : decode cX6_twinesAnew 0 = .ok (.aload_n 0, 1) := by decide +kernel
theorem dX6_twinesAnew_1 : decode cX6_twinesAnew 1 = .ok (.getfield 43, 3) := by decide +kernel
theorem dX6_twinesAnew_4 : decode cX6_twinesAnew 4 = .ok (.aload_n 0, 1) := by decide +kernel
theorem dX6_twinesAnew_5 : decode cX6_twinesAnew 5 = .ok (.iload_n 1, 1) := by decide +kernel
theorem dX6_twinesAnew_6 : decode cX6_twinesAnew 6 = .ok (.invokevirtual 222, 3) := by decide +kernel
theorem dX6_twinesAnew_9 : decode cX6_twinesAnew 9 = .ok (.invokevirtual 251, 3) := by decide +kernel
theorem dX6_twinesAnew_12 : decode cX6_twinesAnew 12 = .ok (.ireturn, 1) := by decide +kernel
theorem dX6_mend_0 : decode cX6_mend 0 = .ok (.aload_n 0, 1) := by decide +kernel
theorem dX6_mend_1 : decode cX6_mend 1 = .ok (.iload_n 1, 1) := by decide +kernel
theorem dX6_mend_2 : decode cX6_mend 2 = .ok (.invokevirtual 222, 3) := by decide +kernel
theorem dX6_mend_5 : decode cX6_mend 5 = .ok (.astore_n 3, 1) := by decide +kernel
theorem dX6_mend_6 : decode cX6_mend 6 = .ok (.iload_n 2, 1) := by decide +kernel
theorem dX6_mend_7 : decode cX6_mend 7 = .ok (.iconst 0, 1) := by decide +kernel
theorem dX6_mend_8 : decode cX6_mend 8 = .ok (.sipush 200, 3) := by decide +kernel
theorem dX6_mend_11 : decode cX6_mend 11 = .ok (.invokestatic 52, 3) := by decide +kernel
theorem dX6_mend_14 : decode cX6_mend 14 = .ok (.aload_n 0, 1) := by decide +kernel
theorem dX6_mend_15 : decode cX6_mend 15 = .ok (.getfield 43, 3) := by decide +kernel
theorem dX6_mend_18 : decode cX6_mend 18 = .ok (.aload_n 3, 1) := by decide +kernel
theorem dX6_mend_19 : decode cX6_mend 19 = .ok (.invokevirtual 248, 3) := by decide +kernel
theorem dX6_mend_22 : decode cX6_mend 22 = .ok (.iload_n 2, 1) := by decide +kernel
theorem dX6_mend_23 : decode cX6_mend 23 = .ok (.if_icmp .gt 10, 3) := by decide +kernel
theorem dX6_mend_26 : decode cX6_mend 26 = .ok (.aload_n 3, 1) := by decide +kernel
theorem dX6_mend_27 : decode cX6_mend 27 = .ok (.invokevirtual 254, 3) := by decide +kernel
theorem dX6_mend_30 : decode cX6_mend 30 = .ok (.goto 4, 3) := by decide +kernel
theorem dX6_mend_33 : decode cX6_mend 33 = .ok (.iconst 0, 1) := by decide +kernel
theorem dX6_mend_34 : decode cX6_mend 34 = .ok (.ireturn, 1) := by decide +kernel
theorem dX6_join_0 : decode cX6_join 0 = .ok (.iload_n 1, 1) := by decide +kernel
theorem dX6_join_1 : decode cX6_join 1 = .ok (.iconst 1, 1) := by decide +kernel
theorem dX6_join_2 : decode cX6_join 2 = .ok (.sipush 10000, 3) := by decide +kernel
theorem dX6_join_5 : decode cX6_join 5 = .ok (.invokestatic 52, 3) := by decide +kernel
theorem dX6_join_8 : decode cX6_join 8 = .ok (.iload_n 2, 1) := by decide +kernel
theorem dX6_join_9 : decode cX6_join 9 = .ok (.iconst 1, 1) := by decide +kernel
theorem dX6_join_10 : decode cX6_join 10 = .ok (.sipush 10000, 3) := by decide +kernel
theorem dX6_join_13 : decode cX6_join 13 = .ok (.invokestatic 52, 3) := by decide +kernel
theorem dX6_join_16 : decode cX6_join 16 = .ok (.iload_n 3, 1) := by decide +kernel
theorem dX6_join_17 : decode cX6_join 17 = .ok (.iconst 0, 1) := by decide +kernel
theorem dX6_join_18 : decode cX6_join 18 = .ok (.iload_n 2, 1) := by decide +kernel
theorem dX6_join_19 : decode cX6_join 19 = .ok (.iconst 1, 1) := by decide +kernel
theorem dX6_join_20 : decode cX6_join 20 = .ok (.isub, 1) := by decide +kernel
theorem dX6_join_21 : decode cX6_join 21 = .ok (.invokestatic 52, 3) := by decide +kernel
theorem dX6_join_24 : decode cX6_join 24 = .ok (.iload_n 3, 1) := by decide +kernel
theorem dX6_join_25 : decode cX6_join 25 = .ok (.iconst 1, 1) := by decide +kernel
theorem dX6_join_26 : decode cX6_join 26 = .ok (.iadd, 1) := by decide +kernel
theorem dX6_join_27 : decode cX6_join 27 = .ok (.iload_n 1, 1) := by decide +kernel
theorem dX6_join_28 : decode cX6_join 28 = .ok (.imul, 1) := by decide +kernel
theorem dX6_join_29 : decode cX6_join 29 = .ok (.iload_n 2, 1) := by decide +kernel
theorem dX6_join_30 : decode cX6_join 30 = .ok (.invokestatic 257, 3) := by decide +kernel
theorem dX6_join_33 : decode cX6_join 33 = .ok (.iload_n 3, 1) := by decide +kernel
theorem dX6_join_34 : decode cX6_join 34 = .ok (.iload_n 1, 1) := by decide +kernel
theorem dX6_join_35 : decode cX6_join 35 = .ok (.imul, 1) := by decide +kernel
theorem dX6_join_36 : decode cX6_join 36 = .ok (.iload_n 2, 1) := by decide +kernel
theorem dX6_join_37 : decode cX6_join 37 = .ok (.invokestatic 257, 3) := by decide +kernel
theorem dX6_join_40 : decode cX6_join 40 = .ok (.isub, 1) := by decide +kernel
theorem dX6_join_41 : decode cX6_join 41 = .ok (.ireturn, 1) := by decide +kernel
theorem dX6_depth_0 : decode cX6_depth 0 = .ok (.iload_n 1, 1) := by decide +kernel
theorem dX6_depth_1 : decode cX6_depth 1 = .ok (.iconst 1, 1) := by decide +kernel
theorem dX6_depth_2 : decode cX6_depth 2 = .ok (.sipush 1000, 3) := by decide +kernel
theorem dX6_depth_5 : decode cX6_depth 5 = .ok (.invokestatic 52, 3) := by decide +kernel
theorem dX6_depth_8 : decode cX6_depth 8 = .ok (.iload_n 2, 1) := by decide +kernel
theorem dX6_depth_9 : decode cX6_depth 9 = .ok (.iconst 1, 1) := by decide +kernel
theorem dX6_depth_10 : decode cX6_depth 10 = .ok (.sipush 1000, 3) := by decide +kernel
theorem dX6_depth_13 : decode cX6_depth 13 = .ok (.invokestatic 52, 3) := by decide +kernel
theorem dX6_depth_16 : decode cX6_depth 16 = .ok (.iload_n 3, 1) := by decide +kernel
theorem dX6_depth_17 : decode cX6_depth 17 = .ok (.iconst 1, 1) := by decide +kernel
theorem dX6_depth_18 : decode cX6_depth 18 = .ok (.bipush 99, 2) := by decide +kernel
theorem dX6_depth_20 : decode cX6_depth 20 = .ok (.invokestatic 52, 3) := by decide +kernel
theorem dX6_depth_23 : decode cX6_depth 23 = .ok (.iload_n 1, 1) := by decide +kernel
theorem dX6_depth_24 : decode cX6_depth 24 = .ok (.iload_n 2, 1) := by decide +kernel
theorem dX6_depth_25 : decode cX6_depth 25 = .ok (.imul, 1) := by decide +kernel
theorem dX6_depth_26 : decode cX6_depth 26 = .ok (.sipush 10000, 3) := by decide +kernel
theorem dX6_depth_29 : decode cX6_depth 29 = .ok (.iload_n 3, 1) := by decide +kernel
theorem dX6_depth_30 : decode cX6_depth 30 = .ok (.iload_n 3, 1) := by decide +kernel
theorem dX6_depth_31 : decode cX6_depth 31 = .ok (.imul, 1) := by decide +kernel
theorem dX6_depth_32 : decode cX6_depth 32 = .ok (.isub, 1) := by decide +kernel
theorem dX6_depth_33 : decode cX6_depth 33 = .ok (.invokestatic 260, 3) := by decide +kernel
theorem dX6_depth_36 : decode cX6_depth 36 = .ok (.imul, 1) := by decide +kernel
theorem dX6_depth_37 : decode cX6_depth 37 = .ok (.bipush 100, 2) := by decide +kernel
theorem dX6_depth_39 : decode cX6_depth 39 = .ok (.idiv, 1) := by decide +kernel
theorem dX6_depth_40 : decode cX6_depth 40 = .ok (.ireturn, 1) := by decide +kernel
theorem dX6_checkRange_0 : decode cX6_checkRange 0 = .ok (.iload_n 0, 1) := by decide +kernel
theorem dX6_checkRange_1 : decode cX6_checkRange 1 = .ok (.iload_n 1, 1) := by decide +kernel
theorem dX6_checkRange_2 : decode cX6_checkRange 2 = .ok (.if_icmp .lt 8, 3) := by decide +kernel
theorem dX6_checkRange_5 : decode cX6_checkRange 5 = .ok (.iload_n 0, 1) := by decide +kernel
theorem dX6_checkRange_6 : decode cX6_checkRange 6 = .ok (.iload_n 2, 1) := by decide +kernel
theorem dX6_checkRange_7 : decode cX6_checkRange 7 = .ok (.if_icmp .le 14, 3) := by decide +kernel
theorem dX6_checkRange_10 : decode cX6_checkRange 10 = .ok (.new 263, 3) := by decide +kernel
theorem dX6_checkRange_13 : decode cX6_checkRange 13 = .ok (.dup, 1) := by decide +kernel
theorem dX6_checkRange_14 : decode cX6_checkRange 14 = .ok (.ldc_w 265, 3) := by decide +kernel
theorem dX6_checkRange_17 : decode cX6_checkRange 17 = .ok (.invokespecial 267, 3) := by decide +kernel
theorem dX6_checkRange_20 : decode cX6_checkRange 20 = .ok (.athrow, 1) := by decide +kernel
theorem dX6_checkRange_21 : decode cX6_checkRange 21 = .ok (.return_, 1) := by decide +kernel
theorem dX6_checkUnlike_0 : decode cX6_checkUnlike 0 = .ok (.iload_n 0, 1) := by decide +kernel
theorem dX6_checkUnlike_1 : decode cX6_checkUnlike 1 = .ok (.iload_n 1, 1) := by decide +kernel
theorem dX6_checkUnlike_2 : decode cX6_checkUnlike 2 = .ok (.if_icmp .ne 14, 3) := by decide +kernel
theorem dX6_checkUnlike_5 : decode cX6_checkUnlike 5 = .ok (.new 263, 3) := by decide +kernel
theorem dX6_checkUnlike_8 : decode cX6_checkUnlike 8 = .ok (.dup, 1) := by decide +kernel
theorem dX6_checkUnlike_9 : decode cX6_checkUnlike 9 = .ok (.ldc_w 268, 3) := by decide +kernel
theorem dX6_checkUnlike_12 : decode cX6_checkUnlike 12 = .ok (.invokespecial 267, 3) := by decide +kernel
theorem dX6_checkUnlike_15 : decode cX6_checkUnlike 15 = .ok (.athrow, 1) := by decide +kernel
theorem dX6_checkUnlike_16 : decode cX6_checkUnlike 16 = .ok (.return_, 1) := by decide +kernel
theorem dX6_checkIndex_0 : decode cX6_checkIndex 0 = .ok (.iload_n 0, 1) := by decide +kernel
theorem dX6_checkIndex_1 : decode cX6_checkIndex 1 = .ok (.ifCond .lt 8, 3) := by decide +kernel
theorem dX6_checkIndex_4 : decode cX6_checkIndex 4 = .ok (.iload_n 0, 1) := by decide +kernel
theorem dX6_checkIndex_5 : decode cX6_checkIndex 5 = .ok (.iload_n 1, 1) := by decide +kernel
theorem dX6_checkIndex_6 : decode cX6_checkIndex 6 = .ok (.if_icmp .lt 14, 3) := by decide +kernel
theorem dX6_checkIndex_9 : decode cX6_checkIndex 9 = .ok (.new 230, 3) := by decide +kernel
theorem dX6_checkIndex_12 : decode cX6_checkIndex 12 = .ok (.dup, 1) := by decide +kernel
theorem dX6_checkIndex_13 : decode cX6_checkIndex 13 = .ok (.ldc_w 270, 3) := by decide +kernel
theorem dX6_checkIndex_16 : decode cX6_checkIndex 16 = .ok (.invokespecial 234, 3) := by decide +kernel
theorem dX6_checkIndex_19 : decode cX6_checkIndex 19 = .ok (.athrow, 1) := by decide +kernel
theorem dX6_checkIndex_20 : decode cX6_checkIndex 20 = .ok (.return_, 1) := by decide +kernel
theorem dX6_checkState_0 : decode cX6_checkState 0 = .ok (.iload_n 0, 1) := by decide +kernel
theorem dX6_checkState_1 : decode cX6_checkState 1 = .ok (.ifCond .ne 14, 3) := by decide +kernel
theorem dX6_checkState_4 : decode cX6_checkState 4 = .ok (.new 272, 3) := by decide +kernel
theorem dX6_checkState_7 : decode cX6_checkState 7 = .ok (.dup, 1) := by decide +kernel
theorem dX6_checkState_8 : decode cX6_checkState 8 = .ok (.ldc_w 274, 3) := by decide +kernel
theorem dX6_checkState_11 : decode cX6_checkState 11 = .ok (.invokespecial 276, 3) := by decide +kernel
theorem dX6_checkState_14 : decode cX6_checkState 14 = .ok (.athrow, 1) := by decide +kernel
theorem dX6_checkState_15 : decode cX6_checkState 15 = .ok (.return_, 1) := by decide +kernel
theorem dX6_checkRoomForLine_0 : decode cX6_checkRoomForLine 0 = .ok (.aload_n 0, 1) := by decide +kernel
theorem dX6_checkRoomForLine_1 : decode cX6_checkRoomForLine 1 = .ok (.getfield 277, 3) := by decide +kernel
theorem dX6_checkRoomForLine_4 : decode cX6_checkRoomForLine 4 = .ok (.aload_n 0, 1) := by decide +kernel
theorem dX6_checkRoomForLine_5 : decode cX6_checkRoomForLine 5 = .ok (.getfield 17, 3) := by decide +kernel
theorem dX6_checkRoomForLine_8 : decode cX6_checkRoomForLine 8 = .ok (.arraylength, 1) := by decide +kernel
theorem dX6_checkRoomForLine_9 : decode cX6_checkRoomForLine 9 = .ok (.if_icmp .ge 7, 3) := by decide +kernel
theorem dX6_checkRoomForLine_12 : decode cX6_checkRoomForLine 12 = .ok (.iconst 1, 1) := by decide +kernel
theorem dX6_checkRoomForLine_13 : decode cX6_checkRoomForLine 13 = .ok (.goto 4, 3) := by decide +kernel
theorem dX6_checkRoomForLine_16 : decode cX6_checkRoomForLine 16 = .ok (.iconst 0, 1) := by decide +kernel
theorem dX6_checkRoomForLine_17 : decode cX6_checkRoomForLine 17 = .ok (.invokestatic 86, 3) := by decide +kernel
theorem dX6_checkRoomForLine_20 : decode cX6_checkRoomForLine 20 = .ok (.return_, 1) := by decide +kernel
theorem dX6_fibreAt_0 : decode cX6_fibreAt 0 = .ok (.iload_n 1, 1) := by decide +kernel
theorem dX6_fibreAt_1 : decode cX6_fibreAt 1 = .ok (.ifCond .lt 21, 3) := by decide +kernel
theorem dX6_fibreAt_4 : decode cX6_fibreAt 4 = .ok (.iload_n 1, 1) := by decide +kernel
theorem dX6_fibreAt_5 : decode cX6_fibreAt 5 = .ok (.aload_n 0, 1) := by decide +kernel
theorem dX6_fibreAt_6 : decode cX6_fibreAt 6 = .ok (.getfield 11, 3) := by decide +kernel
theorem dX6_fibreAt_9 : decode cX6_fibreAt 9 = .ok (.arraylength, 1) := by decide +kernel
theorem dX6_fibreAt_10 : decode cX6_fibreAt 10 = .ok (.if_icmp .ge 12, 3) := by decide +kernel
theorem dX6_fibreAt_13 : decode cX6_fibreAt 13 = .ok (.aload_n 0, 1) := by decide +kernel
theorem dX6_fibreAt_14 : decode cX6_fibreAt 14 = .ok (.getfield 11, 3) := by decide +kernel
theorem dX6_fibreAt_17 : decode cX6_fibreAt 17 = .ok (.iload_n 1, 1) := by decide +kernel
theorem dX6_fibreAt_18 : decode cX6_fibreAt 18 = .ok (.aaload, 1) := by decide +kernel
theorem dX6_fibreAt_19 : decode cX6_fibreAt 19 = .ok (.goto 4, 3) := by decide +kernel
theorem dX6_fibreAt_22 : decode cX6_fibreAt 22 = .ok (.aconst_null, 1) := by decide +kernel
theorem dX6_fibreAt_23 : decode cX6_fibreAt 23 = .ok (.astore_n 2, 1) := by decide +kernel
theorem dX6_fibreAt_24 : decode cX6_fibreAt 24 = .ok (.aload_n 2, 1) := by decide +kernel
theorem dX6_fibreAt_25 : decode cX6_fibreAt 25 = .ok (.ifnonnull 14, 3) := by decide +kernel
theorem dX6_fibreAt_28 : decode cX6_fibreAt 28 = .ok (.new 230, 3) := by decide +kernel
theorem dX6_fibreAt_31 : decode cX6_fibreAt 31 = .ok (.dup, 1) := by decide +kernel
theorem dX6_fibreAt_32 : decode cX6_fibreAt 32 = .ok (.ldc_w 280, 3) := by decide +kernel
theorem dX6_fibreAt_35 : decode cX6_fibreAt 35 = .ok (.invokespecial 234, 3) := by decide +kernel
theorem dX6_fibreAt_38 : decode cX6_fibreAt 38 = .ok (.athrow, 1) := by decide +kernel
theorem dX6_fibreAt_39 : decode cX6_fibreAt 39 = .ok (.aload_n 2, 1) := by decide +kernel
theorem dX6_fibreAt_40 : decode cX6_fibreAt 40 = .ok (.areturn, 1) := by decide +kernel
theorem dX6_lineAt_0 : decode cX6_lineAt 0 = .ok (.iload_n 1, 1) := by decide +kernel
theorem dX6_lineAt_1 : decode cX6_lineAt 1 = .ok (.ifCond .lt 21, 3) := by decide +kernel
theorem dX6_lineAt_4 : decode cX6_lineAt 4 = .ok (.iload_n 1, 1) := by decide +kernel
theorem dX6_lineAt_5 : decode cX6_lineAt 5 = .ok (.aload_n 0, 1) := by decide +kernel
theorem dX6_lineAt_6 : decode cX6_lineAt 6 = .ok (.getfield 17, 3) := by decide +kernel
theorem dX6_lineAt_9 : decode cX6_lineAt 9 = .ok (.arraylength, 1) := by decide +kernel
theorem dX6_lineAt_10 : decode cX6_lineAt 10 = .ok (.if_icmp .ge 12, 3) := by decide +kernel
theorem dX6_lineAt_13 : decode cX6_lineAt 13 = .ok (.aload_n 0, 1) := by decide +kernel
theorem dX6_lineAt_14 : decode cX6_lineAt 14 = .ok (.getfield 17, 3) := by decide +kernel
theorem dX6_lineAt_17 : decode cX6_lineAt 17 = .ok (.iload_n 1, 1) := by decide +kernel
theorem dX6_lineAt_18 : decode cX6_lineAt 18 = .ok (.aaload, 1) := by decide +kernel
theorem dX6_lineAt_19 : decode cX6_lineAt 19 = .ok (.goto 4, 3) := by decide +kernel
theorem dX6_lineAt_22 : decode cX6_lineAt 22 = .ok (.aconst_null, 1) := by decide +kernel
theorem dX6_lineAt_23 : decode cX6_lineAt 23 = .ok (.astore_n 2, 1) := by decide +kernel
theorem dX6_lineAt_24 : decode cX6_lineAt 24 = .ok (.aload_n 2, 1) := by decide +kernel
theorem dX6_lineAt_25 : decode cX6_lineAt 25 = .ok (.ifnonnull 14, 3) := by decide +kernel
theorem dX6_lineAt_28 : decode cX6_lineAt 28 = .ok (.new 230, 3) := by decide +kernel
theorem dX6_lineAt_31 : decode cX6_lineAt 31 = .ok (.dup, 1) := by decide +kernel
theorem dX6_lineAt_32 : decode cX6_lineAt 32 = .ok (.ldc_w 282, 3) := by decide +kernel
theorem dX6_lineAt_35 : decode cX6_lineAt 35 = .ok (.invokespecial 234, 3) := by decide +kernel
theorem dX6_lineAt_38 : decode cX6_lineAt 38 = .ok (.athrow, 1) := by decide +kernel
theorem dX6_lineAt_39 : decode cX6_lineAt 39 = .ok (.aload_n 2, 1) := by decide +kernel
theorem dX6_lineAt_40 : decode cX6_lineAt 40 = .ok (.areturn, 1) := by decide +kernel
theorem dX6_rigAt_0 : decode cX6_rigAt 0 = .ok (.iload_n 1, 1) := by decide +kernel
theorem dX6_rigAt_1 : decode cX6_rigAt 1 = .ok (.ifCond .lt 21, 3) := by decide +kernel
theorem dX6_rigAt_4 : decode cX6_rigAt 4 = .ok (.iload_n 1, 1) := by decide +kernel
theorem dX6_rigAt_5 : decode cX6_rigAt 5 = .ok (.aload_n 0, 1) := by decide +kernel
theorem dX6_rigAt_6 : decode cX6_rigAt 6 = .ok (.getfield 23, 3) := by decide +kernel
theorem dX6_rigAt_9 : decode cX6_rigAt 9 = .ok (.arraylength, 1) := by decide +kernel
theorem dX6_rigAt_10 : decode cX6_rigAt 10 = .ok (.if_icmp .ge 12, 3) := by decide +kernel
theorem dX6_rigAt_13 : decode cX6_rigAt 13 = .ok (.aload_n 0, 1) := by decide +kernel
theorem dX6_rigAt_14 : decode cX6_rigAt 14 = .ok (.getfield 23, 3) := by decide +kernel
theorem dX6_rigAt_17 : decode cX6_rigAt 17 = .ok (.iload_n 1, 1) := by decide +kernel
theorem dX6_rigAt_18 : decode cX6_rigAt 18 = .ok (.aaload, 1) := by decide +kernel
theorem dX6_rigAt_19 : decode cX6_rigAt 19 = .ok (.goto 4, 3) := by decide +kernel
theorem dX6_rigAt_22 : decode cX6_rigAt 22 = .ok (.aconst_null, 1) := by decide +kernel
theorem dX6_rigAt_23 : decode cX6_rigAt 23 = .ok (.astore_n 2, 1) := by decide +kernel
theorem dX6_rigAt_24 : decode cX6_rigAt 24 = .ok (.aload_n 2, 1) := by decide +kernel
theorem dX6_rigAt_25 : decode cX6_rigAt 25 = .ok (.ifnonnull 14, 3) := by decide +kernel
theorem dX6_rigAt_28 : decode cX6_rigAt 28 = .ok (.new 230, 3) := by decide +kernel
theorem dX6_rigAt_31 : decode cX6_rigAt 31 = .ok (.dup, 1) := by decide +kernel
theorem dX6_rigAt_32 : decode cX6_rigAt 32 = .ok (.ldc_w 284, 3) := by decide +kernel
theorem dX6_rigAt_35 : decode cX6_rigAt 35 = .ok (.invokespecial 234, 3) := by decide +kernel
theorem dX6_rigAt_38 : decode cX6_rigAt 38 = .ok (.athrow, 1) := by decide +kernel
theorem dX6_rigAt_39 : decode cX6_rigAt 39 = .ok (.aload_n 2, 1) := by decide +kernel
theorem dX6_rigAt_40 : decode cX6_rigAt 40 = .ok (.areturn, 1) := by decide +kernel
theorem dX6_netAt_0 : decode cX6_netAt 0 = .ok (.iload_n 1, 1) := by decide +kernel
theorem dX6_netAt_1 : decode cX6_netAt 1 = .ok (.ifCond .lt 21, 3) := by decide +kernel
theorem dX6_netAt_4 : decode cX6_netAt 4 = .ok (.iload_n 1, 1) := by decide +kernel
theorem dX6_netAt_5 : decode cX6_netAt 5 = .ok (.aload_n 0, 1) := by decide +kernel
theorem dX6_netAt_6 : decode cX6_netAt 6 = .ok (.getfield 36, 3) := by decide +kernel
theorem dX6_netAt_9 : decode cX6_netAt 9 = .ok (.arraylength, 1) := by decide +kernel
theorem dX6_netAt_10 : decode cX6_netAt 10 = .ok (.if_icmp .ge 12, 3) := by decide +kernel
theorem dX6_netAt_13 : decode cX6_netAt 13 = .ok (.aload_n 0, 1) := by decide +kernel
theorem dX6_netAt_14 : decode cX6_netAt 14 = .ok (.getfield 36, 3) := by decide +kernel
theorem dX6_netAt_17 : decode cX6_netAt 17 = .ok (.iload_n 1, 1) := by decide +kernel
theorem dX6_netAt_18 : decode cX6_netAt 18 = .ok (.aaload, 1) := by decide +kernel
theorem dX6_netAt_19 : decode cX6_netAt 19 = .ok (.goto 4, 3) := by decide +kernel
theorem dX6_netAt_22 : decode cX6_netAt 22 = .ok (.aconst_null, 1) := by decide +kernel
theorem dX6_netAt_23 : decode cX6_netAt 23 = .ok (.astore_n 2, 1) := by decide +kernel
theorem dX6_netAt_24 : decode cX6_netAt 24 = .ok (.aload_n 2, 1) := by decide +kernel
theorem dX6_netAt_25 : decode cX6_netAt 25 = .ok (.ifnonnull 14, 3) := by decide +kernel
theorem dX6_netAt_28 : decode cX6_netAt 28 = .ok (.new 230, 3) := by decide +kernel
theorem dX6_netAt_31 : decode cX6_netAt 31 = .ok (.dup, 1) := by decide +kernel
theorem dX6_netAt_32 : decode cX6_netAt 32 = .ok (.ldc_w 286, 3) := by decide +kernel
theorem dX6_netAt_35 : decode cX6_netAt 35 = .ok (.invokespecial 234, 3) := by decide +kernel
theorem dX6_netAt_38 : decode cX6_netAt 38 = .ok (.athrow, 1) := by decide +kernel
theorem dX6_netAt_39 : decode cX6_netAt 39 = .ok (.aload_n 2, 1) := by decide +kernel
theorem dX6_netAt_40 : decode cX6_netAt 40 = .ok (.areturn, 1) := by decide +kernel
theorem dX6_keepLine_0 : decode cX6_keepLine 0 = .ok (.aload_n 0, 1) := by decide +kernel
theorem dX6_keepLine_1 : decode cX6_keepLine 1 = .ok (.getfield 277, 3) := by decide +kernel
theorem dX6_keepLine_4 : decode cX6_keepLine 4 = .ok (.istore_n 2, 1) := by decide +kernel
theorem dX6_keepLine_5 : decode cX6_keepLine 5 = .ok (.iload_n 2, 1) := by decide +kernel
theorem dX6_keepLine_6 : decode cX6_keepLine 6 = .ok (.ifCond .lt 26, 3) := by decide +kernel
theorem dX6_keepLine_9 : decode cX6_keepLine 9 = .ok (.iload_n 2, 1) := by decide +kernel
theorem dX6_keepLine_10 : decode cX6_keepLine 10 = .ok (.aload_n 0, 1) := by decide +kernel
theorem dX6_keepLine_11 : decode cX6_keepLine 11 = .ok (.getfield 17, 3) := by decide +kernel
theorem dX6_keepLine_14 : decode cX6_keepLine 14 = .ok (.arraylength, 1) := by decide +kernel
theorem dX6_keepLine_15 : decode cX6_keepLine 15 = .ok (.if_icmp .ge 17, 3) := by decide +kernel
theorem dX6_keepLine_18 : decode cX6_keepLine 18 = .ok (.aload_n 0, 1) := by decide +kernel
theorem dX6_keepLine_19 : decode cX6_keepLine 19 = .ok (.getfield 17, 3) := by decide +kernel
theorem dX6_keepLine_22 : decode cX6_keepLine 22 = .ok (.iload_n 2, 1) := by decide +kernel
theorem dX6_keepLine_23 : decode cX6_keepLine 23 = .ok (.aload_n 1, 1) := by decide +kernel
theorem dX6_keepLine_24 : decode cX6_keepLine 24 = .ok (.aastore, 1) := by decide +kernel
theorem dX6_keepLine_25 : decode cX6_keepLine 25 = .ok (.aload_n 0, 1) := by decide +kernel
theorem dX6_keepLine_26 : decode cX6_keepLine 26 = .ok (.iload_n 2, 1) := by decide +kernel
theorem dX6_keepLine_27 : decode cX6_keepLine 27 = .ok (.iconst 1, 1) := by decide +kernel
theorem dX6_keepLine_28 : decode cX6_keepLine 28 = .ok (.iadd, 1) := by decide +kernel
theorem dX6_keepLine_29 : decode cX6_keepLine 29 = .ok (.putfield 277, 3) := by decide +kernel
theorem dX6_keepLine_32 : decode cX6_keepLine 32 = .ok (.iload_n 2, 1) := by decide +kernel
theorem dX6_keepLine_33 : decode cX6_keepLine 33 = .ok (.ireturn, 1) := by decide +kernel
theorem dX6_keepRig_0 : decode cX6_keepRig 0 = .ok (.aload_n 0, 1) := by decide +kernel
theorem dX6_keepRig_1 : decode cX6_keepRig 1 = .ok (.getfield 146, 3) := by decide +kernel
theorem dX6_keepRig_4 : decode cX6_keepRig 4 = .ok (.istore_n 2, 1) := by decide +kernel
theorem dX6_keepRig_5 : decode cX6_keepRig 5 = .ok (.iload_n 2, 1) := by decide +kernel
theorem dX6_keepRig_6 : decode cX6_keepRig 6 = .ok (.ifCond .lt 26, 3) := by decide +kernel
theorem dX6_keepRig_9 : decode cX6_keepRig 9 = .ok (.iload_n 2, 1) := by decide +kernel
theorem dX6_keepRig_10 : decode cX6_keepRig 10 = .ok (.aload_n 0, 1) := by decide +kernel
theorem dX6_keepRig_11 : decode cX6_keepRig 11 = .ok (.getfield 23, 3) := by decide +kernel
theorem dX6_keepRig_14 : decode cX6_keepRig 14 = .ok (.arraylength, 1) := by decide +kernel
theorem dX6_keepRig_15 : decode cX6_keepRig 15 = .ok (.if_icmp .ge 17, 3) := by decide +kernel
theorem dX6_keepRig_18 : decode cX6_keepRig 18 = .ok (.aload_n 0, 1) := by decide +kernel
theorem dX6_keepRig_19 : decode cX6_keepRig 19 = .ok (.getfield 23, 3) := by decide +kernel
theorem dX6_keepRig_22 : decode cX6_keepRig 22 = .ok (.iload_n 2, 1) := by decide +kernel
theorem dX6_keepRig_23 : decode cX6_keepRig 23 = .ok (.aload_n 1, 1) := by decide +kernel
theorem dX6_keepRig_24 : decode cX6_keepRig 24 = .ok (.aastore, 1) := by decide +kernel
theorem dX6_keepRig_25 : decode cX6_keepRig 25 = .ok (.aload_n 0, 1) := by decide +kernel
theorem dX6_keepRig_26 : decode cX6_keepRig 26 = .ok (.iload_n 2, 1) := by decide +kernel
theorem dX6_keepRig_27 : decode cX6_keepRig 27 = .ok (.iconst 1, 1) := by decide +kernel
theorem dX6_keepRig_28 : decode cX6_keepRig 28 = .ok (.iadd, 1) := by decide +kernel
theorem dX6_keepRig_29 : decode cX6_keepRig 29 = .ok (.putfield 146, 3) := by decide +kernel
theorem dX6_keepRig_32 : decode cX6_keepRig 32 = .ok (.iload_n 2, 1) := by decide +kernel
theorem dX6_keepRig_33 : decode cX6_keepRig 33 = .ok (.ireturn, 1) := by decide +kernel
theorem dX6_keepNet_0 : decode cX6_keepNet 0 = .ok (.aload_n 0, 1) := by decide +kernel
theorem dX6_keepNet_1 : decode cX6_keepNet 1 = .ok (.getfield 213, 3) := by decide +kernel
theorem dX6_keepNet_4 : decode cX6_keepNet 4 = .ok (.istore_n 2, 1) := by decide +kernel
theorem dX6_keepNet_5 : decode cX6_keepNet 5 = .ok (.iload_n 2, 1) := by decide +kernel
theorem dX6_keepNet_6 : decode cX6_keepNet 6 = .ok (.ifCond .lt 26, 3) := by decide +kernel
theorem dX6_keepNet_9 : decode cX6_keepNet 9 = .ok (.iload_n 2, 1) := by decide +kernel
theorem dX6_keepNet_10 : decode cX6_keepNet 10 = .ok (.aload_n 0, 1) := by decide +kernel
theorem dX6_keepNet_11 : decode cX6_keepNet 11 = .ok (.getfield 36, 3) := by decide +kernel
theorem dX6_keepNet_14 : decode cX6_keepNet 14 = .ok (.arraylength, 1) := by decide +kernel
theorem dX6_keepNet_15 : decode cX6_keepNet 15 = .ok (.if_icmp .ge 17, 3) := by decide +kernel
theorem dX6_keepNet_18 : decode cX6_keepNet 18 = .ok (.aload_n 0, 1) := by decide +kernel
theorem dX6_keepNet_19 : decode cX6_keepNet 19 = .ok (.getfield 36, 3) := by decide +kernel
theorem dX6_keepNet_22 : decode cX6_keepNet 22 = .ok (.iload_n 2, 1) := by decide +kernel
theorem dX6_keepNet_23 : decode cX6_keepNet 23 = .ok (.aload_n 1, 1) := by decide +kernel
theorem dX6_keepNet_24 : decode cX6_keepNet 24 = .ok (.aastore, 1) := by decide +kernel
theorem dX6_keepNet_25 : decode cX6_keepNet 25 = .ok (.aload_n 0, 1) := by decide +kernel
theorem dX6_keepNet_26 : decode cX6_keepNet 26 = .ok (.iload_n 2, 1) := by decide +kernel
theorem dX6_keepNet_27 : decode cX6_keepNet 27 = .ok (.iconst 1, 1) := by decide +kernel
theorem dX6_keepNet_28 : decode cX6_keepNet 28 = .ok (.iadd, 1) := by decide +kernel
theorem dX6_keepNet_29 : decode cX6_keepNet 29 = .ok (.putfield 213, 3) := by decide +kernel
theorem dX6_keepNet_32 : decode cX6_keepNet 32 = .ok (.iload_n 2, 1) := by decide +kernel
theorem dX6_keepNet_33 : decode cX6_keepNet 33 = .ok (.ireturn, 1) := by decide +kernel
theorem dX6_shortestStock_0 : decode cX6_shortestStock 0 = .ok (.aconst_null, 1) := by decide +kernel
theorem dX6_shortestStock_1 : decode cX6_shortestStock 1 = .ok (.astore_n 3, 1) := by decide +kernel
theorem dX6_shortestStock_2 : decode cX6_shortestStock 2 = .ok (.aload_n 0, 1) := by decide +kernel
theorem dX6_shortestStock_3 : decode cX6_shortestStock 3 = .ok (.getfield 17, 3) := by decide +kernel
theorem dX6_shortestStock_6 : decode cX6_shortestStock 6 = .ok (.astore 4, 2) := by decide +kernel
theorem dX6_shortestStock_8 : decode cX6_shortestStock 8 = .ok (.aload 4, 2) := by decide +kernel
theorem dX6_shortestStock_10 : decode cX6_shortestStock 10 = .ok (.arraylength, 1) := by decide +kernel
theorem dX6_shortestStock_11 : decode cX6_shortestStock 11 = .ok (.istore 5, 2) := by decide +kernel
theorem dX6_shortestStock_13 : decode cX6_shortestStock 13 = .ok (.iconst 0, 1) := by decide +kernel
theorem dX6_shortestStock_14 : decode cX6_shortestStock 14 = .ok (.istore 6, 2) := by decide +kernel
theorem dX6_shortestStock_16 : decode cX6_shortestStock 16 = .ok (.iload 6, 2) := by decide +kernel
theorem dX6_shortestStock_18 : decode cX6_shortestStock 18 = .ok (.iload 5, 2) := by decide +kernel
theorem dX6_shortestStock_20 : decode cX6_shortestStock 20 = .ok (.if_icmp .ge 66, 3) := by decide +kernel
theorem dX6_shortestStock_23 : decode cX6_shortestStock 23 = .ok (.aload 4, 2) := by decide +kernel
theorem dX6_shortestStock_25 : decode cX6_shortestStock 25 = .ok (.iload 6, 2) := by decide +kernel
theorem dX6_shortestStock_27 : decode cX6_shortestStock 27 = .ok (.aaload, 1) := by decide +kernel
theorem dX6_shortestStock_28 : decode cX6_shortestStock 28 = .ok (.astore 7, 2) := by decide +kernel
theorem dX6_shortestStock_30 : decode cX6_shortestStock 30 = .ok (.aload 7, 2) := by decide +kernel
theorem dX6_shortestStock_32 : decode cX6_shortestStock 32 = .ok (.ifnull 48, 3) := by decide +kernel
theorem dX6_shortestStock_35 : decode cX6_shortestStock 35 = .ok (.aload 7, 2) := by decide +kernel
theorem dX6_shortestStock_37 : decode cX6_shortestStock 37 = .ok (.getfield 94, 3) := by decide +kernel
theorem dX6_shortestStock_40 : decode cX6_shortestStock 40 = .ok (.iload_n 1, 1) := by decide +kernel
theorem dX6_shortestStock_41 : decode cX6_shortestStock 41 = .ok (.if_icmp .ne 39, 3) := by decide +kernel
theorem dX6_shortestStock_44 : decode cX6_shortestStock 44 = .ok (.aload 7, 2) := by decide +kernel
theorem dX6_shortestStock_46 : decode cX6_shortestStock 46 = .ok (.invokevirtual 106, 3) := by decide +kernel
theorem dX6_shortestStock_49 : decode cX6_shortestStock 49 = .ok (.ifCond .eq 31, 3) := by decide +kernel
theorem dX6_shortestStock_52 : decode cX6_shortestStock 52 = .ok (.aload 7, 2) := by decide +kernel
theorem dX6_shortestStock_54 : decode cX6_shortestStock 54 = .ok (.getfield 105, 3) := by decide +kernel
theorem dX6_shortestStock_57 : decode cX6_shortestStock 57 = .ok (.iload_n 2, 1) := by decide +kernel
theorem dX6_shortestStock_58 : decode cX6_shortestStock 58 = .ok (.if_icmp .lt 22, 3) := by decide +kernel
theorem dX6_shortestStock_61 : decode cX6_shortestStock 61 = .ok (.aload_n 3, 1) := by decide +kernel
theorem dX6_shortestStock_62 : decode cX6_shortestStock 62 = .ok (.ifnull 15, 3) := by decide +kernel
theorem dX6_shortestStock_65 : decode cX6_shortestStock 65 = .ok (.aload 7, 2) := by decide +kernel
theorem dX6_shortestStock_67 : decode cX6_shortestStock 67 = .ok (.getfield 105, 3) := by decide +kernel
theorem dX6_shortestStock_70 : decode cX6_shortestStock 70 = .ok (.aload_n 3, 1) := by decide +kernel
theorem dX6_shortestStock_71 : decode cX6_shortestStock 71 = .ok (.getfield 105, 3) := by decide +kernel
theorem dX6_shortestStock_74 : decode cX6_shortestStock 74 = .ok (.if_icmp .ge 6, 3) := by decide +kernel
theorem dX6_shortestStock_77 : decode cX6_shortestStock 77 = .ok (.aload 7, 2) := by decide +kernel
theorem dX6_shortestStock_79 : decode cX6_shortestStock 79 = .ok (.astore_n 3, 1) := by decide +kernel
theorem dX6_shortestStock_80 : decode cX6_shortestStock 80 = .ok (.iinc 6 1, 3) := by decide +kernel
theorem dX6_shortestStock_83 : decode cX6_shortestStock 83 = .ok (.goto (-67), 3) := by decide +kernel
theorem dX6_shortestStock_86 : decode cX6_shortestStock 86 = .ok (.aload_n 3, 1) := by decide +kernel
theorem dX6_shortestStock_87 : decode cX6_shortestStock 87 = .ok (.areturn, 1) := by decide +kernel
theorem dX6_yarnsIn_0 : decode cX6_yarnsIn 0 = .ok (.aload_n 0, 1) := by decide +kernel
theorem dX6_yarnsIn_1 : decode cX6_yarnsIn 1 = .ok (.invokevirtual 288, 3) := by decide +kernel
theorem dX6_yarnsIn_4 : decode cX6_yarnsIn 4 = .ok (.astore_n 2, 1) := by decide +kernel
theorem dX6_yarnsIn_5 : decode cX6_yarnsIn 5 = .ok (.aload_n 2, 1) := by decide +kernel
theorem dX6_yarnsIn_6 : decode cX6_yarnsIn 6 = .ok (.getfield 292, 3) := by decide +kernel
theorem dX6_yarnsIn_9 : decode cX6_yarnsIn 9 = .ok (.ifnull 22, 3) := by decide +kernel
theorem dX6_yarnsIn_12 : decode cX6_yarnsIn 12 = .ok (.aload_n 2, 1) := by decide +kernel
theorem dX6_yarnsIn_13 : decode cX6_yarnsIn 13 = .ok (.getfield 295, 3) := by decide +kernel
theorem dX6_yarnsIn_16 : decode cX6_yarnsIn 16 = .ok (.ifnull 15, 3) := by decide +kernel
theorem dX6_yarnsIn_19 : decode cX6_yarnsIn 19 = .ok (.aload_n 2, 1) := by decide +kernel
theorem dX6_yarnsIn_20 : decode cX6_yarnsIn 20 = .ok (.getfield 298, 3) := by decide +kernel
theorem dX6_yarnsIn_23 : decode cX6_yarnsIn 23 = .ok (.ifnull 8, 3) := by decide +kernel
theorem dX6_yarnsIn_26 : decode cX6_yarnsIn 26 = .ok (.iload_n 1, 1) := by decide +kernel
theorem dX6_yarnsIn_27 : decode cX6_yarnsIn 27 = .ok (.iconst 3, 1) := by decide +kernel
theorem dX6_yarnsIn_28 : decode cX6_yarnsIn 28 = .ok (.if_icmp .lt 5, 3) := by decide +kernel
theorem dX6_yarnsIn_31 : decode cX6_yarnsIn 31 = .ok (.iconst 1, 1) := by decide +kernel
theorem dX6_yarnsIn_32 : decode cX6_yarnsIn 32 = .ok (.ireturn, 1) := by decide +kernel
theorem dX6_yarnsIn_33 : decode cX6_yarnsIn 33 = .ok (.aload_n 2, 1) := by decide +kernel
theorem dX6_yarnsIn_34 : decode cX6_yarnsIn 34 = .ok (.getfield 298, 3) := by decide +kernel
theorem dX6_yarnsIn_37 : decode cX6_yarnsIn 37 = .ok (.iload_n 1, 1) := by decide +kernel
theorem dX6_yarnsIn_38 : decode cX6_yarnsIn 38 = .ok (.iconst 1, 1) := by decide +kernel
theorem dX6_yarnsIn_39 : decode cX6_yarnsIn 39 = .ok (.iadd, 1) := by decide +kernel
theorem dX6_yarnsIn_40 : decode cX6_yarnsIn 40 = .ok (.invokestatic 142, 3) := by decide +kernel
theorem dX6_yarnsIn_43 : decode cX6_yarnsIn 43 = .ok (.aload_n 2, 1) := by decide +kernel
theorem dX6_yarnsIn_44 : decode cX6_yarnsIn 44 = .ok (.getfield 292, 3) := by decide +kernel
theorem dX6_yarnsIn_47 : decode cX6_yarnsIn 47 = .ok (.iload_n 1, 1) := by decide +kernel
theorem dX6_yarnsIn_48 : decode cX6_yarnsIn 48 = .ok (.iconst 1, 1) := by decide +kernel
theorem dX6_yarnsIn_49 : decode cX6_yarnsIn 49 = .ok (.iadd, 1) := by decide +kernel
theorem dX6_yarnsIn_50 : decode cX6_yarnsIn 50 = .ok (.invokestatic 142, 3) := by decide +kernel
theorem dX6_yarnsIn_53 : decode cX6_yarnsIn 53 = .ok (.iadd, 1) := by decide +kernel
theorem dX6_yarnsIn_54 : decode cX6_yarnsIn 54 = .ok (.aload_n 2, 1) := by decide +kernel
theorem dX6_yarnsIn_55 : decode cX6_yarnsIn 55 = .ok (.getfield 295, 3) := by decide +kernel
theorem dX6_yarnsIn_58 : decode cX6_yarnsIn 58 = .ok (.iload_n 1, 1) := by decide +kernel
theorem dX6_yarnsIn_59 : decode cX6_yarnsIn 59 = .ok (.iconst 1, 1) := by decide +kernel
theorem dX6_yarnsIn_60 : decode cX6_yarnsIn 60 = .ok (.iadd, 1) := by decide +kernel
theorem dX6_yarnsIn_61 : decode cX6_yarnsIn 61 = .ok (.invokestatic 142, 3) := by decide +kernel
theorem dX6_yarnsIn_64 : decode cX6_yarnsIn 64 = .ok (.iadd, 1) := by decide +kernel
theorem dX6_yarnsIn_65 : decode cX6_yarnsIn 65 = .ok (.ireturn, 1) := by decide +kernel
theorem dX6_quotient_0 : decode cX6_quotient 0 = .ok (.iload_n 1, 1) := by decide +kernel
theorem dX6_quotient_1 : decode cX6_quotient 1 = .ok (.ifCond .le 11, 3) := by decide +kernel
theorem dX6_quotient_4 : decode cX6_quotient 4 = .ok (.iload_n 0, 1) := by decide +kernel
theorem dX6_quotient_5 : decode cX6_quotient 5 = .ok (.iload_n 1, 1) := by decide +kernel
theorem dX6_quotient_6 : decode cX6_quotient 6 = .ok (.invokestatic 301, 3) := by decide +kernel
theorem dX6_quotient_9 : decode cX6_quotient 9 = .ok (.goto 4, 3) := by decide +kernel
theorem dX6_quotient_12 : decode cX6_quotient 12 = .ok (.iconst 0, 1) := by decide +kernel
theorem dX6_quotient_13 : decode cX6_quotient 13 = .ok (.ireturn, 1) := by decide +kernel
theorem dX6_rootOf_0 : decode cX6_rootOf 0 = .ok (.iconst 0, 1) := by decide +kernel
theorem dX6_rootOf_1 : decode cX6_rootOf 1 = .ok (.istore_n 1, 1) := by decide +kernel
theorem dX6_rootOf_2 : decode cX6_rootOf 2 = .ok (.iload_n 1, 1) := by decide +kernel
theorem dX6_rootOf_3 : decode cX6_rootOf 3 = .ok (.bipush 100, 2) := by decide +kernel
theorem dX6_rootOf_5 : decode cX6_rootOf 5 = .ok (.if_icmp .ge 20, 3) := by decide +kernel
theorem dX6_rootOf_8 : decode cX6_rootOf 8 = .ok (.iload_n 1, 1) := by decide +kernel
theorem dX6_rootOf_9 : decode cX6_rootOf 9 = .ok (.iconst 1, 1) := by decide +kernel
theorem dX6_rootOf_10 : decode cX6_rootOf 10 = .ok (.iadd, 1) := by decide +kernel
theorem dX6_rootOf_11 : decode cX6_rootOf 11 = .ok (.iload_n 1, 1) := by decide +kernel
theorem dX6_rootOf_12 : decode cX6_rootOf 12 = .ok (.iconst 1, 1) := by decide +kernel
theorem dX6_rootOf_13 : decode cX6_rootOf 13 = .ok (.iadd, 1) := by decide +kernel
theorem dX6_rootOf_14 : decode cX6_rootOf 14 = .ok (.imul, 1) := by decide +kernel
theorem dX6_rootOf_15 : decode cX6_rootOf 15 = .ok (.iload_n 0, 1) := by decide +kernel
theorem dX6_rootOf_16 : decode cX6_rootOf 16 = .ok (.if_icmp .gt 9, 3) := by decide +kernel
theorem dX6_rootOf_19 : decode cX6_rootOf 19 = .ok (.iinc 1 1, 3) := by decide +kernel
theorem dX6_rootOf_22 : decode cX6_rootOf 22 = .ok (.goto (-20), 3) := by decide +kernel
theorem dX6_rootOf_25 : decode cX6_rootOf 25 = .ok (.iload_n 1, 1) := by decide +kernel
theorem dX6_rootOf_26 : decode cX6_rootOf 26 = .ok (.ireturn, 1) := by decide +kernel
theorem dJ9_floorDiv_7cf53_0 : decode cJ9_floorDiv_7cf53 0 = .ok (.iload_n 0, 1) := by decide +kernel
theorem dJ9_floorDiv_7cf53_1 : decode cJ9_floorDiv_7cf53 1 = .ok (.iload_n 1, 1) := by decide +kernel
theorem dJ9_floorDiv_7cf53_2 : decode cJ9_floorDiv_7cf53 2 = .ok (.idiv, 1) := by decide +kernel
theorem dJ9_floorDiv_7cf53_3 : decode cJ9_floorDiv_7cf53 3 = .ok (.istore_n 2, 1) := by decide +kernel
theorem dJ9_floorDiv_7cf53_4 : decode cJ9_floorDiv_7cf53 4 = .ok (.iload_n 0, 1) := by decide +kernel
theorem dJ9_floorDiv_7cf53_5 : decode cJ9_floorDiv_7cf53 5 = .ok (.iload_n 1, 1) := by decide +kernel
theorem dJ9_floorDiv_7cf53_6 : decode cJ9_floorDiv_7cf53 6 = .ok (.ixor, 1) := by decide +kernel
theorem dJ9_floorDiv_7cf53_7 : decode cJ9_floorDiv_7cf53 7 = .ok (.ifCond .ge 14, 3) := by decide +kernel
theorem dJ9_floorDiv_7cf53_10 : decode cJ9_floorDiv_7cf53 10 = .ok (.iload_n 2, 1) := by decide +kernel
theorem dJ9_floorDiv_7cf53_11 : decode cJ9_floorDiv_7cf53 11 = .ok (.iload_n 1, 1) := by decide +kernel
theorem dJ9_floorDiv_7cf53_12 : decode cJ9_floorDiv_7cf53 12 = .ok (.imul, 1) := by decide +kernel
theorem dJ9_floorDiv_7cf53_13 : decode cJ9_floorDiv_7cf53 13 = .ok (.iload_n 0, 1) := by decide +kernel
theorem dJ9_floorDiv_7cf53_14 : decode cJ9_floorDiv_7cf53 14 = .ok (.if_icmp .eq 7, 3) := by decide +kernel
theorem dJ9_floorDiv_7cf53_17 : decode cJ9_floorDiv_7cf53 17 = .ok (.iload_n 2, 1) := by decide +kernel
theorem dJ9_floorDiv_7cf53_18 : decode cJ9_floorDiv_7cf53 18 = .ok (.iconst 1, 1) := by decide +kernel
theorem dJ9_floorDiv_7cf53_19 : decode cJ9_floorDiv_7cf53 19 = .ok (.isub, 1) := by decide +kernel
theorem dJ9_floorDiv_7cf53_20 : decode cJ9_floorDiv_7cf53 20 = .ok (.ireturn, 1) := by decide +kernel
theorem dJ9_floorDiv_7cf53_21 : decode cJ9_floorDiv_7cf53 21 = .ok (.iload_n 2, 1) := by decide +kernel
theorem dJ9_floorDiv_7cf53_22 : decode cJ9_floorDiv_7cf53 22 = .ok (.ireturn, 1) := by decide +kernel
theorem dJ9_abs_0f7a4_0 : decode cJ9_abs_0f7a4 0 = .ok (.iload_n 0, 1) := by decide +kernel
theorem dJ9_abs_0f7a4_1 : decode cJ9_abs_0f7a4 1 = .ok (.ifCond .ge 8, 3) := by decide +kernel
theorem dJ9_abs_0f7a4_4 : decode cJ9_abs_0f7a4 4 = .ok (.iload_n 0, 1) := by decide +kernel
theorem dJ9_abs_0f7a4_5 : decode cJ9_abs_0f7a4 5 = .ok (.ineg, 1) := by decide +kernel
theorem dJ9_abs_0f7a4_6 : decode cJ9_abs_0f7a4 6 = .ok (.goto 4, 3) := by decide +kernel
theorem dJ9_abs_0f7a4_9 : decode cJ9_abs_0f7a4 9 = .ok (.iload_n 0, 1) := by decide +kernel
theorem dJ9_abs_0f7a4_10 : decode cJ9_abs_0f7a4 10 = .ok (.ireturn, 1) := by decide +kernel
theorem dJ9_max_7cf53_0 : decode cJ9_max_7cf53 0 = .ok (.iload_n 0, 1) := by decide +kernel
theorem dJ9_max_7cf53_1 : decode cJ9_max_7cf53 1 = .ok (.iload_n 1, 1) := by decide +kernel
theorem dJ9_max_7cf53_2 : decode cJ9_max_7cf53 2 = .ok (.if_icmp .lt 7, 3) := by decide +kernel
theorem dJ9_max_7cf53_5 : decode cJ9_max_7cf53 5 = .ok (.iload_n 0, 1) := by decide +kernel
theorem dJ9_max_7cf53_6 : decode cJ9_max_7cf53 6 = .ok (.goto 4, 3) := by decide +kernel
theorem dJ9_max_7cf53_9 : decode cJ9_max_7cf53 9 = .ok (.iload_n 1, 1) := by decide +kernel
theorem dJ9_max_7cf53_10 : decode cJ9_max_7cf53 10 = .ok (.ireturn, 1) := by decide +kernel
theorem dJ9_min_7cf53_0 : decode cJ9_min_7cf53 0 = .ok (.iload_n 0, 1) := by decide +kernel
theorem dJ9_min_7cf53_1 : decode cJ9_min_7cf53 1 = .ok (.iload_n 1, 1) := by decide +kernel
theorem dJ9_min_7cf53_2 : decode cJ9_min_7cf53 2 = .ok (.if_icmp .gt 7, 3) := by decide +kernel
theorem dJ9_min_7cf53_5 : decode cJ9_min_7cf53 5 = .ok (.iload_n 0, 1) := by decide +kernel
theorem dJ9_min_7cf53_6 : decode cJ9_min_7cf53 6 = .ok (.goto 4, 3) := by decide +kernel
theorem dJ9_min_7cf53_9 : decode cJ9_min_7cf53 9 = .ok (.iload_n 1, 1) := by decide +kernel
theorem dJ9_min_7cf53_10 : decode cJ9_min_7cf53 10 = .ok (.ireturn, 1) := by decide +kernel
theorem dJ9_min_f86c9_0 : decode cJ9_min_f86c9 0 = .ok (.lload_n 0, 1) := by decide +kernel
theorem dJ9_min_f86c9_1 : decode cJ9_min_f86c9 1 = .ok (.lload_n 2, 1) := by decide +kernel
theorem dJ9_min_f86c9_2 : decode cJ9_min_f86c9 2 = .ok (.lcmp, 1) := by decide +kernel
theorem dJ9_min_f86c9_3 : decode cJ9_min_f86c9 3 = .ok (.ifCond .gt 7, 3) := by decide +kernel
theorem dJ9_min_f86c9_6 : decode cJ9_min_f86c9 6 = .ok (.lload_n 0, 1) := by decide +kernel
theorem dJ9_min_f86c9_7 : decode cJ9_min_f86c9 7 = .ok (.goto 4, 3) := by decide +kernel
theorem dJ9_min_f86c9_10 : decode cJ9_min_f86c9 10 = .ok (.lload_n 2, 1) := by decide +kernel
theorem dJ9_min_f86c9_11 : decode cJ9_min_f86c9 11 = .ok (.lreturn, 1) := by decide +kernel
theorem dJ7_fill_53178_0 : decode cJ7_fill_53178 0 = .ok (.iconst 0, 1) := by decide +kernel
theorem dJ7_fill_53178_1 : decode cJ7_fill_53178 1 = .ok (.istore_n 2, 1) := by decide +kernel
theorem dJ7_fill_53178_2 : decode cJ7_fill_53178 2 = .ok (.aload_n 0, 1) := by decide +kernel
theorem dJ7_fill_53178_3 : decode cJ7_fill_53178 3 = .ok (.arraylength, 1) := by decide +kernel
theorem dJ7_fill_53178_4 : decode cJ7_fill_53178 4 = .ok (.istore_n 3, 1) := by decide +kernel
theorem dJ7_fill_53178_5 : decode cJ7_fill_53178 5 = .ok (.iload_n 2, 1) := by decide +kernel
theorem dJ7_fill_53178_6 : decode cJ7_fill_53178 6 = .ok (.iload_n 3, 1) := by decide +kernel
theorem dJ7_fill_53178_7 : decode cJ7_fill_53178 7 = .ok (.if_icmp .ge 13, 3) := by decide +kernel
theorem dJ7_fill_53178_10 : decode cJ7_fill_53178 10 = .ok (.aload_n 0, 1) := by decide +kernel
theorem dJ7_fill_53178_11 : decode cJ7_fill_53178 11 = .ok (.iload_n 2, 1) := by decide +kernel
theorem dJ7_fill_53178_12 : decode cJ7_fill_53178 12 = .ok (.iload_n 1, 1) := by decide +kernel
theorem dJ7_fill_53178_13 : decode cJ7_fill_53178 13 = .ok (.iastore, 1) := by decide +kernel
theorem dJ7_fill_53178_14 : decode cJ7_fill_53178 14 = .ok (.iinc 2 1, 3) := by decide +kernel
theorem dJ7_fill_53178_17 : decode cJ7_fill_53178 17 = .ok (.goto (-12), 3) := by decide +kernel
theorem dJ7_fill_53178_20 : decode cJ7_fill_53178 20 = .ok (.return_, 1) := by decide +kernel
theorem dL_draw_0 : decode cL_draw 0 = .ok (.iload_n 1, 1) := by decide +kernel
theorem dL_draw_1 : decode cL_draw 1 = .ok (.aload_n 0, 1) := by decide +kernel
theorem dL_draw_2 : decode cL_draw 2 = .ok (.arraylength, 1) := by decide +kernel
theorem dL_draw_3 : decode cL_draw 3 = .ok (.if_icmp .ge 9, 3) := by decide +kernel
theorem dL_draw_6 : decode cL_draw 6 = .ok (.aload_n 0, 1) := by decide +kernel
theorem dL_draw_7 : decode cL_draw 7 = .ok (.iload_n 1, 1) := by decide +kernel
theorem dL_draw_8 : decode cL_draw 8 = .ok (.iaload, 1) := by decide +kernel
theorem dL_draw_9 : decode cL_draw 9 = .ok (.goto 11, 3) := by decide +kernel
theorem dL_draw_12 : decode cL_draw 12 = .ok (.ldc 7, 2) := by decide +kernel
theorem dL_draw_14 : decode cL_draw 14 = .ok (.iload_n 1, 1) := by decide +kernel
theorem dL_draw_15 : decode cL_draw 15 = .ok (.imul, 1) := by decide +kernel
theorem dL_draw_16 : decode cL_draw 16 = .ok (.sipush 11801, 3) := by decide +kernel
theorem dL_draw_19 : decode cL_draw 19 = .ok (.iadd, 1) := by decide +kernel
theorem dL_draw_20 : decode cL_draw 20 = .ok (.ldc 8, 2) := by decide +kernel
theorem dL_draw_22 : decode cL_draw 22 = .ok (.iand, 1) := by decide +kernel
theorem dL_draw_23 : decode cL_draw 23 = .ok (.ireturn, 1) := by decide +kernel
theorem dL_fibre_0 : decode cL_fibre 0 = .ok (.aload_n 0, 1) := by decide +kernel
theorem dL_fibre_1 : decode cL_fibre 1 = .ok (.iload_n 1, 1) := by decide +kernel
theorem dL_fibre_2 : decode cL_fibre 2 = .ok (.iload_n 2, 1) := by decide +kernel
theorem dL_fibre_3 : decode cL_fibre 3 = .ok (.iload_n 3, 1) := by decide +kernel
theorem dL_fibre_4 : decode cL_fibre 4 = .ok (.invokevirtual 9, 3) := by decide +kernel
theorem dL_fibre_7 : decode cL_fibre 7 = .ok (.lconst 0, 1) := by decide +kernel
theorem dL_fibre_8 : decode cL_fibre 8 = .ok (.lreturn, 1) := by decide +kernel
theorem dL_fibre_9 : decode cL_fibre 9 = .ok (.astore 4, 2) := by decide +kernel
theorem dL_fibre_11 : decode cL_fibre 11 = .ok (.ldc2_w 17, 3) := by decide +kernel
theorem dL_fibre_14 : decode cL_fibre 14 = .ok (.lreturn, 1) := by decide +kernel
theorem dL_fibre_15 : decode cL_fibre 15 = .ok (.astore 4, 2) := by decide +kernel
theorem dL_fibre_17 : decode cL_fibre 17 = .ok (.ldc2_w 21, 3) := by decide +kernel
theorem dL_fibre_20 : decode cL_fibre 20 = .ok (.lreturn, 1) := by decide +kernel
theorem dL_spin_0 : decode cL_spin 0 = .ok (.aload_n 0, 1) := by decide +kernel
theorem dL_spin_1 : decode cL_spin 1 = .ok (.iload_n 1, 1) := by decide +kernel
theorem dL_spin_2 : decode cL_spin 2 = .ok (.iload_n 2, 1) := by decide +kernel
theorem dL_spin_3 : decode cL_spin 3 = .ok (.iload_n 3, 1) := by decide +kernel
theorem dL_spin_4 : decode cL_spin 4 = .ok (.iload 4, 2) := by decide +kernel
theorem dL_spin_6 : decode cL_spin 6 = .ok (.invokevirtual 23, 3) := by decide +kernel
theorem dL_spin_9 : decode cL_spin 9 = .ok (.i2l, 1) := by decide +kernel
theorem dL_spin_10 : decode cL_spin 10 = .ok (.lreturn, 1) := by decide +kernel
theorem dL_spin_11 : decode cL_spin 11 = .ok (.astore 5, 2) := by decide +kernel
theorem dL_spin_13 : decode cL_spin 13 = .ok (.ldc2_w 17, 3) := by decide +kernel
theorem dL_spin_16 : decode cL_spin 16 = .ok (.lreturn, 1) := by decide +kernel
theorem dL_spin_17 : decode cL_spin 17 = .ok (.astore 5, 2) := by decide +kernel
theorem dL_spin_19 : decode cL_spin 19 = .ok (.ldc2_w 21, 3) := by decide +kernel
theorem dL_spin_22 : decode cL_spin 22 = .ok (.lreturn, 1) := by decide +kernel
theorem dL_spin_23 : decode cL_spin 23 = .ok (.astore 5, 2) := by decide +kernel
theorem dL_spin_25 : decode cL_spin 25 = .ok (.ldc2_w 29, 3) := by decide +kernel
theorem dL_spin_28 : decode cL_spin 28 = .ok (.lreturn, 1) := by decide +kernel
theorem dL_lay_0 : decode cL_lay 0 = .ok (.aload_n 0, 1) := by decide +kernel
theorem dL_lay_1 : decode cL_lay 1 = .ok (.iload_n 1, 1) := by decide +kernel
theorem dL_lay_2 : decode cL_lay 2 = .ok (.iload_n 2, 1) := by decide +kernel
theorem dL_lay_3 : decode cL_lay 3 = .ok (.iload_n 3, 1) := by decide +kernel
theorem dL_lay_4 : decode cL_lay 4 = .ok (.iload 4, 2) := by decide +kernel
theorem dL_lay_6 : decode cL_lay 6 = .ok (.invokevirtual 31, 3) := by decide +kernel
theorem dL_lay_9 : decode cL_lay 9 = .ok (.i2l, 1) := by decide +kernel
theorem dL_lay_10 : decode cL_lay 10 = .ok (.lreturn, 1) := by decide +kernel
theorem dL_lay_11 : decode cL_lay 11 = .ok (.astore 5, 2) := by decide +kernel
theorem dL_lay_13 : decode cL_lay 13 = .ok (.ldc2_w 17, 3) := by decide +kernel
theorem dL_lay_16 : decode cL_lay 16 = .ok (.lreturn, 1) := by decide +kernel
theorem dL_lay_17 : decode cL_lay 17 = .ok (.astore 5, 2) := by decide +kernel
theorem dL_lay_19 : decode cL_lay 19 = .ok (.ldc2_w 21, 3) := by decide +kernel
theorem dL_lay_22 : decode cL_lay 22 = .ok (.lreturn, 1) := by decide +kernel
theorem dL_lay_23 : decode cL_lay 23 = .ok (.astore 5, 2) := by decide +kernel
theorem dL_lay_25 : decode cL_lay 25 = .ok (.ldc2_w 29, 3) := by decide +kernel
theorem dL_lay_28 : decode cL_lay 28 = .ok (.lreturn, 1) := by decide +kernel
theorem dL_cut_0 : decode cL_cut 0 = .ok (.aload_n 0, 1) := by decide +kernel
theorem dL_cut_1 : decode cL_cut 1 = .ok (.iload_n 1, 1) := by decide +kernel
theorem dL_cut_2 : decode cL_cut 2 = .ok (.iload_n 2, 1) := by decide +kernel
theorem dL_cut_3 : decode cL_cut 3 = .ok (.invokevirtual 34, 3) := by decide +kernel
theorem dL_cut_6 : decode cL_cut 6 = .ok (.i2l, 1) := by decide +kernel
theorem dL_cut_7 : decode cL_cut 7 = .ok (.lreturn, 1) := by decide +kernel
theorem dL_cut_8 : decode cL_cut 8 = .ok (.astore_n 3, 1) := by decide +kernel
theorem dL_cut_9 : decode cL_cut 9 = .ok (.ldc2_w 17, 3) := by decide +kernel
theorem dL_cut_12 : decode cL_cut 12 = .ok (.lreturn, 1) := by decide +kernel
theorem dL_cut_13 : decode cL_cut 13 = .ok (.astore_n 3, 1) := by decide +kernel
theorem dL_cut_14 : decode cL_cut 14 = .ok (.ldc2_w 21, 3) := by decide +kernel
theorem dL_cut_17 : decode cL_cut 17 = .ok (.lreturn, 1) := by decide +kernel
theorem dL_cut_18 : decode cL_cut 18 = .ok (.astore_n 3, 1) := by decide +kernel
theorem dL_cut_19 : decode cL_cut 19 = .ok (.ldc2_w 29, 3) := by decide +kernel
theorem dL_cut_22 : decode cL_cut 22 = .ok (.lreturn, 1) := by decide +kernel
theorem dL_order_0 : decode cL_order 0 = .ok (.aload_n 0, 1) := by decide +kernel
theorem dL_order_1 : decode cL_order 1 = .ok (.iload_n 1, 1) := by decide +kernel
theorem dL_order_2 : decode cL_order 2 = .ok (.iload_n 2, 1) := by decide +kernel
theorem dL_order_3 : decode cL_order 3 = .ok (.invokevirtual 38, 3) := by decide +kernel
theorem dL_order_6 : decode cL_order 6 = .ok (.i2l, 1) := by decide +kernel
theorem dL_order_7 : decode cL_order 7 = .ok (.lreturn, 1) := by decide +kernel
theorem dL_order_8 : decode cL_order 8 = .ok (.astore_n 3, 1) := by decide +kernel
theorem dL_order_9 : decode cL_order 9 = .ok (.ldc2_w 21, 3) := by decide +kernel
theorem dL_order_12 : decode cL_order 12 = .ok (.lreturn, 1) := by decide +kernel
theorem dL_order_13 : decode cL_order 13 = .ok (.astore_n 3, 1) := by decide +kernel
theorem dL_order_14 : decode cL_order 14 = .ok (.ldc2_w 29, 3) := by decide +kernel
theorem dL_order_17 : decode cL_order 17 = .ok (.lreturn, 1) := by decide +kernel
theorem dL_splice_0 : decode cL_splice 0 = .ok (.aload_n 0, 1) := by decide +kernel
theorem dL_splice_1 : decode cL_splice 1 = .ok (.iload_n 1, 1) := by decide +kernel
theorem dL_splice_2 : decode cL_splice 2 = .ok (.iload_n 2, 1) := by decide +kernel
theorem dL_splice_3 : decode cL_splice 3 = .ok (.iload_n 3, 1) := by decide +kernel
theorem dL_splice_4 : decode cL_splice 4 = .ok (.invokevirtual 41, 3) := by decide +kernel
theorem dL_splice_7 : decode cL_splice 7 = .ok (.i2l, 1) := by decide +kernel
theorem dL_splice_8 : decode cL_splice 8 = .ok (.lreturn, 1) := by decide +kernel
theorem dL_splice_9 : decode cL_splice 9 = .ok (.astore 4, 2) := by decide +kernel
theorem dL_splice_11 : decode cL_splice 11 = .ok (.ldc2_w 17, 3) := by decide +kernel
theorem dL_splice_14 : decode cL_splice 14 = .ok (.lreturn, 1) := by decide +kernel
theorem dL_splice_15 : decode cL_splice 15 = .ok (.astore 4, 2) := by decide +kernel
theorem dL_splice_17 : decode cL_splice 17 = .ok (.ldc2_w 21, 3) := by decide +kernel
theorem dL_splice_20 : decode cL_splice 20 = .ok (.lreturn, 1) := by decide +kernel
theorem dL_splice_21 : decode cL_splice 21 = .ok (.astore 4, 2) := by decide +kernel
theorem dL_splice_23 : decode cL_splice 23 = .ok (.ldc2_w 29, 3) := by decide +kernel
theorem dL_splice_26 : decode cL_splice 26 = .ok (.lreturn, 1) := by decide +kernel
theorem dL_load_0 : decode cL_load 0 = .ok (.aload_n 0, 1) := by decide +kernel
theorem dL_load_1 : decode cL_load 1 = .ok (.iload_n 1, 1) := by decide +kernel
theorem dL_load_2 : decode cL_load 2 = .ok (.iload_n 2, 1) := by decide +kernel
theorem dL_load_3 : decode cL_load 3 = .ok (.invokevirtual 45, 3) := by decide +kernel
theorem dL_load_6 : decode cL_load 6 = .ok (.i2l, 1) := by decide +kernel
theorem dL_load_7 : decode cL_load 7 = .ok (.lreturn, 1) := by decide +kernel
theorem dL_load_8 : decode cL_load 8 = .ok (.astore_n 3, 1) := by decide +kernel
theorem dL_load_9 : decode cL_load 9 = .ok (.ldc2_w 17, 3) := by decide +kernel
theorem dL_load_12 : decode cL_load 12 = .ok (.lreturn, 1) := by decide +kernel
theorem dL_load_13 : decode cL_load 13 = .ok (.astore_n 3, 1) := by decide +kernel
theorem dL_load_14 : decode cL_load 14 = .ok (.ldc2_w 21, 3) := by decide +kernel
theorem dL_load_17 : decode cL_load 17 = .ok (.lreturn, 1) := by decide +kernel
theorem dL_load_18 : decode cL_load 18 = .ok (.astore_n 3, 1) := by decide +kernel
theorem dL_load_19 : decode cL_load 19 = .ok (.ldc2_w 29, 3) := by decide +kernel
theorem dL_load_22 : decode cL_load 22 = .ok (.lreturn, 1) := by decide +kernel
theorem dL_sun_0 : decode cL_sun 0 = .ok (.aload_n 0, 1) := by decide +kernel
theorem dL_sun_1 : decode cL_sun 1 = .ok (.iload_n 1, 1) := by decide +kernel
theorem dL_sun_2 : decode cL_sun 2 = .ok (.invokevirtual 48, 3) := by decide +kernel
theorem dL_sun_5 : decode cL_sun 5 = .ok (.i2l, 1) := by decide +kernel
theorem dL_sun_6 : decode cL_sun 6 = .ok (.lreturn, 1) := by decide +kernel
theorem dL_sun_7 : decode cL_sun 7 = .ok (.astore_n 2, 1) := by decide +kernel
theorem dL_sun_8 : decode cL_sun 8 = .ok (.ldc2_w 21, 3) := by decide +kernel
theorem dL_sun_11 : decode cL_sun 11 = .ok (.lreturn, 1) := by decide +kernel
theorem dL_lineOf_0 : decode cL_lineOf 0 = .ok (.aload_n 0, 1) := by decide +kernel
theorem dL_lineOf_1 : decode cL_lineOf 1 = .ok (.iload_n 1, 1) := by decide +kernel
theorem dL_lineOf_2 : decode cL_lineOf 2 = .ok (.iload_n 2, 1) := by decide +kernel
theorem dL_lineOf_3 : decode cL_lineOf 3 = .ok (.invokevirtual 52, 3) := by decide +kernel
theorem dL_lineOf_6 : decode cL_lineOf 6 = .ok (.i2l, 1) := by decide +kernel
theorem dL_lineOf_7 : decode cL_lineOf 7 = .ok (.lreturn, 1) := by decide +kernel
theorem dL_lineOf_8 : decode cL_lineOf 8 = .ok (.astore_n 3, 1) := by decide +kernel
theorem dL_lineOf_9 : decode cL_lineOf 9 = .ok (.ldc2_w 17, 3) := by decide +kernel
theorem dL_lineOf_12 : decode cL_lineOf 12 = .ok (.lreturn, 1) := by decide +kernel
theorem dL_lineOf_13 : decode cL_lineOf 13 = .ok (.astore_n 3, 1) := by decide +kernel
theorem dL_lineOf_14 : decode cL_lineOf 14 = .ok (.ldc2_w 21, 3) := by decide +kernel
theorem dL_lineOf_17 : decode cL_lineOf 17 = .ok (.lreturn, 1) := by decide +kernel
theorem dL_yarns_0 : decode cL_yarns 0 = .ok (.aload_n 0, 1) := by decide +kernel
theorem dL_yarns_1 : decode cL_yarns 1 = .ok (.iload_n 1, 1) := by decide +kernel
theorem dL_yarns_2 : decode cL_yarns 2 = .ok (.invokevirtual 55, 3) := by decide +kernel
theorem dL_yarns_5 : decode cL_yarns 5 = .ok (.i2l, 1) := by decide +kernel
theorem dL_yarns_6 : decode cL_yarns 6 = .ok (.lreturn, 1) := by decide +kernel
theorem dL_yarns_7 : decode cL_yarns 7 = .ok (.astore_n 2, 1) := by decide +kernel
theorem dL_yarns_8 : decode cL_yarns 8 = .ok (.ldc2_w 17, 3) := by decide +kernel
theorem dL_yarns_11 : decode cL_yarns 11 = .ok (.lreturn, 1) := by decide +kernel
theorem dL_rig_0 : decode cL_rig 0 = .ok (.aload_n 0, 1) := by decide +kernel
theorem dL_rig_1 : decode cL_rig 1 = .ok (.iload_n 1, 1) := by decide +kernel
theorem dL_rig_2 : decode cL_rig 2 = .ok (.iload_n 2, 1) := by decide +kernel
theorem dL_rig_3 : decode cL_rig 3 = .ok (.iload_n 3, 1) := by decide +kernel
theorem dL_rig_4 : decode cL_rig 4 = .ok (.invokevirtual 58, 3) := by decide +kernel
theorem dL_rig_7 : decode cL_rig 7 = .ok (.i2l, 1) := by decide +kernel
theorem dL_rig_8 : decode cL_rig 8 = .ok (.lreturn, 1) := by decide +kernel
theorem dL_rig_9 : decode cL_rig 9 = .ok (.astore 4, 2) := by decide +kernel
theorem dL_rig_11 : decode cL_rig 11 = .ok (.ldc2_w 17, 3) := by decide +kernel
theorem dL_rig_14 : decode cL_rig 14 = .ok (.lreturn, 1) := by decide +kernel
theorem dL_rig_15 : decode cL_rig 15 = .ok (.astore 4, 2) := by decide +kernel
theorem dL_rig_17 : decode cL_rig 17 = .ok (.ldc2_w 21, 3) := by decide +kernel
theorem dL_rig_20 : decode cL_rig 20 = .ok (.lreturn, 1) := by decide +kernel
theorem dL_rig_21 : decode cL_rig 21 = .ok (.astore 4, 2) := by decide +kernel
theorem dL_rig_23 : decode cL_rig 23 = .ok (.ldc2_w 29, 3) := by decide +kernel
theorem dL_rig_26 : decode cL_rig 26 = .ok (.lreturn, 1) := by decide +kernel
theorem dL_pull_0 : decode cL_pull 0 = .ok (.aload_n 0, 1) := by decide +kernel
theorem dL_pull_1 : decode cL_pull 1 = .ok (.iload_n 1, 1) := by decide +kernel
theorem dL_pull_2 : decode cL_pull 2 = .ok (.iload_n 2, 1) := by decide +kernel
theorem dL_pull_3 : decode cL_pull 3 = .ok (.invokevirtual 61, 3) := by decide +kernel
theorem dL_pull_6 : decode cL_pull 6 = .ok (.i2l, 1) := by decide +kernel
theorem dL_pull_7 : decode cL_pull 7 = .ok (.lreturn, 1) := by decide +kernel
theorem dL_pull_8 : decode cL_pull 8 = .ok (.astore_n 3, 1) := by decide +kernel
theorem dL_pull_9 : decode cL_pull 9 = .ok (.ldc2_w 17, 3) := by decide +kernel
theorem dL_pull_12 : decode cL_pull 12 = .ok (.lreturn, 1) := by decide +kernel
theorem dL_pull_13 : decode cL_pull 13 = .ok (.astore_n 3, 1) := by decide +kernel
theorem dL_pull_14 : decode cL_pull 14 = .ok (.ldc2_w 21, 3) := by decide +kernel
theorem dL_pull_17 : decode cL_pull 17 = .ok (.lreturn, 1) := by decide +kernel
theorem dL_lift_0 : decode cL_lift 0 = .ok (.aload_n 0, 1) := by decide +kernel
theorem dL_lift_1 : decode cL_lift 1 = .ok (.iload_n 1, 1) := by decide +kernel
theorem dL_lift_2 : decode cL_lift 2 = .ok (.iload_n 2, 1) := by decide +kernel
theorem dL_lift_3 : decode cL_lift 3 = .ok (.invokevirtual 64, 3) := by decide +kernel
theorem dL_lift_6 : decode cL_lift 6 = .ok (.ifCond .eq 7, 3) := by decide +kernel
theorem dL_lift_9 : decode cL_lift 9 = .ok (.lconst 1, 1) := by decide +kernel
theorem dL_lift_10 : decode cL_lift 10 = .ok (.goto 4, 3) := by decide +kernel
theorem dL_lift_13 : decode cL_lift 13 = .ok (.lconst 0, 1) := by decide +kernel
theorem dL_lift_14 : decode cL_lift 14 = .ok (.lreturn, 1) := by decide +kernel
theorem dL_lift_15 : decode cL_lift 15 = .ok (.astore_n 3, 1) := by decide +kernel
theorem dL_lift_16 : decode cL_lift 16 = .ok (.ldc2_w 17, 3) := by decide +kernel
theorem dL_lift_19 : decode cL_lift 19 = .ok (.lreturn, 1) := by decide +kernel
theorem dL_lift_20 : decode cL_lift 20 = .ok (.astore_n 3, 1) := by decide +kernel
theorem dL_lift_21 : decode cL_lift 21 = .ok (.ldc2_w 21, 3) := by decide +kernel
theorem dL_lift_24 : decode cL_lift 24 = .ok (.lreturn, 1) := by decide +kernel
theorem dL_series_0 : decode cL_series 0 = .ok (.aload_n 0, 1) := by decide +kernel
theorem dL_series_1 : decode cL_series 1 = .ok (.iload_n 1, 1) := by decide +kernel
theorem dL_series_2 : decode cL_series 2 = .ok (.iload_n 2, 1) := by decide +kernel
theorem dL_series_3 : decode cL_series 3 = .ok (.iload_n 3, 1) := by decide +kernel
theorem dL_series_4 : decode cL_series 4 = .ok (.invokevirtual 68, 3) := by decide +kernel
theorem dL_series_7 : decode cL_series 7 = .ok (.i2l, 1) := by decide +kernel
theorem dL_series_8 : decode cL_series 8 = .ok (.lreturn, 1) := by decide +kernel
theorem dL_series_9 : decode cL_series 9 = .ok (.astore 4, 2) := by decide +kernel
theorem dL_series_11 : decode cL_series 11 = .ok (.ldc2_w 17, 3) := by decide +kernel
theorem dL_series_14 : decode cL_series 14 = .ok (.lreturn, 1) := by decide +kernel
theorem dL_series_15 : decode cL_series 15 = .ok (.astore 4, 2) := by decide +kernel
theorem dL_series_17 : decode cL_series 17 = .ok (.ldc2_w 21, 3) := by decide +kernel
theorem dL_series_20 : decode cL_series 20 = .ok (.lreturn, 1) := by decide +kernel
theorem dL_holds_0 : decode cL_holds 0 = .ok (.aload_n 0, 1) := by decide +kernel
theorem dL_holds_1 : decode cL_holds 1 = .ok (.iload_n 1, 1) := by decide +kernel
theorem dL_holds_2 : decode cL_holds 2 = .ok (.iload_n 2, 1) := by decide +kernel
theorem dL_holds_3 : decode cL_holds 3 = .ok (.iload_n 3, 1) := by decide +kernel
theorem dL_holds_4 : decode cL_holds 4 = .ok (.iload 4, 2) := by decide +kernel
theorem dL_holds_6 : decode cL_holds 6 = .ok (.invokevirtual 71, 3) := by decide +kernel
theorem dL_holds_9 : decode cL_holds 9 = .ok (.lreturn, 1) := by decide +kernel
theorem dL_holds_10 : decode cL_holds 10 = .ok (.astore 5, 2) := by decide +kernel
theorem dL_holds_12 : decode cL_holds 12 = .ok (.ldc2_w 21, 3) := by decide +kernel
theorem dL_holds_15 : decode cL_holds 15 = .ok (.lreturn, 1) := by decide +kernel
theorem dL_braid_0 : decode cL_braid 0 = .ok (.aload_n 0, 1) := by decide +kernel
theorem dL_braid_1 : decode cL_braid 1 = .ok (.iload_n 1, 1) := by decide +kernel
theorem dL_braid_2 : decode cL_braid 2 = .ok (.invokevirtual 75, 3) := by decide +kernel
theorem dL_braid_5 : decode cL_braid 5 = .ok (.i2l, 1) := by decide +kernel
theorem dL_braid_6 : decode cL_braid 6 = .ok (.lreturn, 1) := by decide +kernel
theorem dL_braid_7 : decode cL_braid 7 = .ok (.astore_n 2, 1) := by decide +kernel
theorem dL_braid_8 : decode cL_braid 8 = .ok (.ldc2_w 21, 3) := by decide +kernel
theorem dL_braid_11 : decode cL_braid 11 = .ok (.lreturn, 1) := by decide +kernel
theorem dL_cross_0 : decode cL_cross 0 = .ok (.aload_n 0, 1) := by decide +kernel
theorem dL_cross_1 : decode cL_cross 1 = .ok (.iload_n 1, 1) := by decide +kernel
theorem dL_cross_2 : decode cL_cross 2 = .ok (.iload_n 2, 1) := by decide +kernel
theorem dL_cross_3 : decode cL_cross 3 = .ok (.invokevirtual 78, 3) := by decide +kernel
theorem dL_cross_6 : decode cL_cross 6 = .ok (.i2l, 1) := by decide +kernel
theorem dL_cross_7 : decode cL_cross 7 = .ok (.lreturn, 1) := by decide +kernel
theorem dL_cross_8 : decode cL_cross 8 = .ok (.astore_n 3, 1) := by decide +kernel
theorem dL_cross_9 : decode cL_cross 9 = .ok (.ldc2_w 17, 3) := by decide +kernel
theorem dL_cross_12 : decode cL_cross 12 = .ok (.lreturn, 1) := by decide +kernel
theorem dL_cross_13 : decode cL_cross 13 = .ok (.astore_n 3, 1) := by decide +kernel
theorem dL_cross_14 : decode cL_cross 14 = .ok (.ldc2_w 29, 3) := by decide +kernel
theorem dL_cross_17 : decode cL_cross 17 = .ok (.lreturn, 1) := by decide +kernel
theorem dL_carrier_0 : decode cL_carrier 0 = .ok (.aload_n 0, 1) := by decide +kernel
theorem dL_carrier_1 : decode cL_carrier 1 = .ok (.iload_n 1, 1) := by decide +kernel
theorem dL_carrier_2 : decode cL_carrier 2 = .ok (.invokevirtual 82, 3) := by decide +kernel
theorem dL_carrier_5 : decode cL_carrier 5 = .ok (.i2l, 1) := by decide +kernel
theorem dL_carrier_6 : decode cL_carrier 6 = .ok (.lreturn, 1) := by decide +kernel
theorem dL_carrier_7 : decode cL_carrier 7 = .ok (.astore_n 2, 1) := by decide +kernel
theorem dL_carrier_8 : decode cL_carrier 8 = .ok (.ldc2_w 17, 3) := by decide +kernel
theorem dL_carrier_11 : decode cL_carrier 11 = .ok (.lreturn, 1) := by decide +kernel
theorem dL_over_0 : decode cL_over 0 = .ok (.aload_n 0, 1) := by decide +kernel
theorem dL_over_1 : decode cL_over 1 = .ok (.iload_n 1, 1) := by decide +kernel
theorem dL_over_2 : decode cL_over 2 = .ok (.iload_n 2, 1) := by decide +kernel
theorem dL_over_3 : decode cL_over 3 = .ok (.invokevirtual 85, 3) := by decide +kernel
theorem dL_over_6 : decode cL_over 6 = .ok (.i2l, 1) := by decide +kernel
theorem dL_over_7 : decode cL_over 7 = .ok (.lreturn, 1) := by decide +kernel
theorem dL_over_8 : decode cL_over 8 = .ok (.astore_n 3, 1) := by decide +kernel
theorem dL_over_9 : decode cL_over 9 = .ok (.ldc2_w 17, 3) := by decide +kernel
theorem dL_over_12 : decode cL_over 12 = .ok (.lreturn, 1) := by decide +kernel
theorem dL_over_13 : decode cL_over 13 = .ok (.astore_n 3, 1) := by decide +kernel
theorem dL_over_14 : decode cL_over 14 = .ok (.ldc2_w 21, 3) := by decide +kernel
theorem dL_over_17 : decode cL_over 17 = .ok (.lreturn, 1) := by decide +kernel
theorem dL_net_0 : decode cL_net 0 = .ok (.aload_n 0, 1) := by decide +kernel
theorem dL_net_1 : decode cL_net 1 = .ok (.iload_n 1, 1) := by decide +kernel
theorem dL_net_2 : decode cL_net 2 = .ok (.iload_n 2, 1) := by decide +kernel
theorem dL_net_3 : decode cL_net 3 = .ok (.invokevirtual 88, 3) := by decide +kernel
theorem dL_net_6 : decode cL_net 6 = .ok (.i2l, 1) := by decide +kernel
theorem dL_net_7 : decode cL_net 7 = .ok (.lreturn, 1) := by decide +kernel
theorem dL_net_8 : decode cL_net 8 = .ok (.astore_n 3, 1) := by decide +kernel
theorem dL_net_9 : decode cL_net 9 = .ok (.ldc2_w 21, 3) := by decide +kernel
theorem dL_net_12 : decode cL_net 12 = .ok (.lreturn, 1) := by decide +kernel
theorem dL_net_13 : decode cL_net 13 = .ok (.astore_n 3, 1) := by decide +kernel
theorem dL_net_14 : decode cL_net 14 = .ok (.ldc2_w 29, 3) := by decide +kernel
theorem dL_net_17 : decode cL_net 17 = .ok (.lreturn, 1) := by decide +kernel
theorem dL_tear_0 : decode cL_tear 0 = .ok (.aload_n 0, 1) := by decide +kernel
theorem dL_tear_1 : decode cL_tear 1 = .ok (.iload_n 1, 1) := by decide +kernel
theorem dL_tear_2 : decode cL_tear 2 = .ok (.iload_n 2, 1) := by decide +kernel
theorem dL_tear_3 : decode cL_tear 3 = .ok (.iload_n 3, 1) := by decide +kernel
theorem dL_tear_4 : decode cL_tear 4 = .ok (.iload 4, 2) := by decide +kernel
theorem dL_tear_6 : decode cL_tear 6 = .ok (.invokevirtual 91, 3) := by decide +kernel
theorem dL_tear_9 : decode cL_tear 9 = .ok (.i2l, 1) := by decide +kernel
theorem dL_tear_10 : decode cL_tear 10 = .ok (.lreturn, 1) := by decide +kernel
theorem dL_tear_11 : decode cL_tear 11 = .ok (.astore 5, 2) := by decide +kernel
theorem dL_tear_13 : decode cL_tear 13 = .ok (.ldc2_w 17, 3) := by decide +kernel
theorem dL_tear_16 : decode cL_tear 16 = .ok (.lreturn, 1) := by decide +kernel
theorem dL_tear_17 : decode cL_tear 17 = .ok (.astore 5, 2) := by decide +kernel
theorem dL_tear_19 : decode cL_tear 19 = .ok (.ldc2_w 29, 3) := by decide +kernel
theorem dL_tear_22 : decode cL_tear 22 = .ok (.lreturn, 1) := by decide +kernel
theorem dL_hole_0 : decode cL_hole 0 = .ok (.aload_n 0, 1) := by decide +kernel
theorem dL_hole_1 : decode cL_hole 1 = .ok (.iload_n 1, 1) := by decide +kernel
theorem dL_hole_2 : decode cL_hole 2 = .ok (.iload_n 2, 1) := by decide +kernel
theorem dL_hole_3 : decode cL_hole 3 = .ok (.iload_n 3, 1) := by decide +kernel
theorem dL_hole_4 : decode cL_hole 4 = .ok (.iload 4, 2) := by decide +kernel
theorem dL_hole_6 : decode cL_hole 6 = .ok (.iload 5, 2) := by decide +kernel
theorem dL_hole_8 : decode cL_hole 8 = .ok (.invokevirtual 95, 3) := by decide +kernel
theorem dL_hole_11 : decode cL_hole 11 = .ok (.i2l, 1) := by decide +kernel
theorem dL_hole_12 : decode cL_hole 12 = .ok (.lreturn, 1) := by decide +kernel
theorem dL_hole_13 : decode cL_hole 13 = .ok (.astore 6, 2) := by decide +kernel
theorem dL_hole_15 : decode cL_hole 15 = .ok (.ldc2_w 17, 3) := by decide +kernel
theorem dL_hole_18 : decode cL_hole 18 = .ok (.lreturn, 1) := by decide +kernel
theorem dL_hole_19 : decode cL_hole 19 = .ok (.astore 6, 2) := by decide +kernel
theorem dL_hole_21 : decode cL_hole 21 = .ok (.ldc2_w 21, 3) := by decide +kernel
theorem dL_hole_24 : decode cL_hole 24 = .ok (.lreturn, 1) := by decide +kernel
theorem dL_twines_0 : decode cL_twines 0 = .ok (.aload_n 0, 1) := by decide +kernel
theorem dL_twines_1 : decode cL_twines 1 = .ok (.iload_n 1, 1) := by decide +kernel
theorem dL_twines_2 : decode cL_twines 2 = .ok (.invokevirtual 99, 3) := by decide +kernel
theorem dL_twines_5 : decode cL_twines 5 = .ok (.i2l, 1) := by decide +kernel
theorem dL_twines_6 : decode cL_twines 6 = .ok (.lreturn, 1) := by decide +kernel
theorem dL_twines_7 : decode cL_twines 7 = .ok (.astore_n 2, 1) := by decide +kernel
theorem dL_twines_8 : decode cL_twines 8 = .ok (.ldc2_w 17, 3) := by decide +kernel
theorem dL_twines_11 : decode cL_twines 11 = .ok (.lreturn, 1) := by decide +kernel
theorem dL_twinesAnew_0 : decode cL_twinesAnew 0 = .ok (.aload_n 0, 1) := by decide +kernel
theorem dL_twinesAnew_1 : decode cL_twinesAnew 1 = .ok (.iload_n 1, 1) := by decide +kernel
theorem dL_twinesAnew_2 : decode cL_twinesAnew 2 = .ok (.invokevirtual 102, 3) := by decide +kernel
theorem dL_twinesAnew_5 : decode cL_twinesAnew 5 = .ok (.i2l, 1) := by decide +kernel
theorem dL_twinesAnew_6 : decode cL_twinesAnew 6 = .ok (.lreturn, 1) := by decide +kernel
theorem dL_twinesAnew_7 : decode cL_twinesAnew 7 = .ok (.astore_n 2, 1) := by decide +kernel
theorem dL_twinesAnew_8 : decode cL_twinesAnew 8 = .ok (.ldc2_w 17, 3) := by decide +kernel
theorem dL_twinesAnew_11 : decode cL_twinesAnew 11 = .ok (.lreturn, 1) := by decide +kernel
theorem dL_mend_0 : decode cL_mend 0 = .ok (.aload_n 0, 1) := by decide +kernel
theorem dL_mend_1 : decode cL_mend 1 = .ok (.iload_n 1, 1) := by decide +kernel
theorem dL_mend_2 : decode cL_mend 2 = .ok (.iload_n 2, 1) := by decide +kernel
theorem dL_mend_3 : decode cL_mend 3 = .ok (.invokevirtual 105, 3) := by decide +kernel
theorem dL_mend_6 : decode cL_mend 6 = .ok (.i2l, 1) := by decide +kernel
theorem dL_mend_7 : decode cL_mend 7 = .ok (.lreturn, 1) := by decide +kernel
theorem dL_mend_8 : decode cL_mend 8 = .ok (.astore_n 3, 1) := by decide +kernel
theorem dL_mend_9 : decode cL_mend 9 = .ok (.ldc2_w 17, 3) := by decide +kernel
theorem dL_mend_12 : decode cL_mend 12 = .ok (.lreturn, 1) := by decide +kernel
theorem dL_mend_13 : decode cL_mend 13 = .ok (.astore_n 3, 1) := by decide +kernel
theorem dL_mend_14 : decode cL_mend 14 = .ok (.ldc2_w 21, 3) := by decide +kernel
theorem dL_mend_17 : decode cL_mend 17 = .ok (.lreturn, 1) := by decide +kernel
theorem dL_join_0 : decode cL_join 0 = .ok (.aload_n 0, 1) := by decide +kernel
theorem dL_join_1 : decode cL_join 1 = .ok (.iload_n 1, 1) := by decide +kernel
theorem dL_join_2 : decode cL_join 2 = .ok (.iload_n 2, 1) := by decide +kernel
theorem dL_join_3 : decode cL_join 3 = .ok (.iload_n 3, 1) := by decide +kernel
theorem dL_join_4 : decode cL_join 4 = .ok (.invokevirtual 108, 3) := by decide +kernel
theorem dL_join_7 : decode cL_join 7 = .ok (.i2l, 1) := by decide +kernel
theorem dL_join_8 : decode cL_join 8 = .ok (.lreturn, 1) := by decide +kernel
theorem dL_join_9 : decode cL_join 9 = .ok (.astore 4, 2) := by decide +kernel
theorem dL_join_11 : decode cL_join 11 = .ok (.ldc2_w 21, 3) := by decide +kernel
theorem dL_join_14 : decode cL_join 14 = .ok (.lreturn, 1) := by decide +kernel
theorem dL_depth_0 : decode cL_depth 0 = .ok (.aload_n 0, 1) := by decide +kernel
theorem dL_depth_1 : decode cL_depth 1 = .ok (.iload_n 1, 1) := by decide +kernel
theorem dL_depth_2 : decode cL_depth 2 = .ok (.iload_n 2, 1) := by decide +kernel
theorem dL_depth_3 : decode cL_depth 3 = .ok (.iload_n 3, 1) := by decide +kernel
theorem dL_depth_4 : decode cL_depth 4 = .ok (.invokevirtual 111, 3) := by decide +kernel
theorem dL_depth_7 : decode cL_depth 7 = .ok (.i2l, 1) := by decide +kernel
theorem dL_depth_8 : decode cL_depth 8 = .ok (.lreturn, 1) := by decide +kernel
theorem dL_depth_9 : decode cL_depth 9 = .ok (.astore 4, 2) := by decide +kernel
theorem dL_depth_11 : decode cL_depth 11 = .ok (.ldc2_w 21, 3) := by decide +kernel
theorem dL_depth_14 : decode cL_depth 14 = .ok (.lreturn, 1) := by decide +kernel
theorem dL_linesHold_0 : decode cL_linesHold 0 = .ok (.aload_n 0, 1) := by decide +kernel
theorem dL_linesHold_1 : decode cL_linesHold 1 = .ok (.iload_n 1, 1) := by decide +kernel
theorem dL_linesHold_2 : decode cL_linesHold 2 = .ok (.iconst 0, 1) := by decide +kernel
theorem dL_linesHold_3 : decode cL_linesHold 3 = .ok (.invokestatic 114, 3) := by decide +kernel
theorem dL_linesHold_6 : decode cL_linesHold 6 = .ok (.ldc2_w 17, 3) := by decide +kernel
theorem dL_linesHold_9 : decode cL_linesHold 9 = .ok (.lcmp, 1) := by decide +kernel
theorem dL_linesHold_10 : decode cL_linesHold 10 = .ok (.ifCond .ne 7, 3) := by decide +kernel
theorem dL_linesHold_13 : decode cL_linesHold 13 = .ok (.iconst 1, 1) := by decide +kernel
theorem dL_linesHold_14 : decode cL_linesHold 14 = .ok (.goto 4, 3) := by decide +kernel
theorem dL_linesHold_17 : decode cL_linesHold 17 = .ok (.iconst 0, 1) := by decide +kernel
theorem dL_linesHold_18 : decode cL_linesHold 18 = .ok (.istore_n 2, 1) := by decide +kernel
theorem dL_linesHold_19 : decode cL_linesHold 19 = .ok (.iconst 0, 1) := by decide +kernel
theorem dL_linesHold_20 : decode cL_linesHold 20 = .ok (.istore_n 3, 1) := by decide +kernel
theorem dL_linesHold_21 : decode cL_linesHold 21 = .ok (.iload_n 3, 1) := by decide +kernel
theorem dL_linesHold_22 : decode cL_linesHold 22 = .ok (.iload_n 1, 1) := by decide +kernel
theorem dL_linesHold_23 : decode cL_linesHold 23 = .ok (.if_icmp .ge 294, 3) := by decide +kernel
theorem dL_linesHold_26 : decode cL_linesHold 26 = .ok (.iload_n 2, 1) := by decide +kernel
theorem dL_linesHold_27 : decode cL_linesHold 27 = .ok (.ifCond .eq 290, 3) := by decide +kernel
theorem dL_linesHold_30 : decode cL_linesHold 30 = .ok (.aload_n 0, 1) := by decide +kernel
theorem dL_linesHold_31 : decode cL_linesHold 31 = .ok (.iload_n 3, 1) := by decide +kernel
theorem dL_linesHold_32 : decode cL_linesHold 32 = .ok (.iconst 0, 1) := by decide +kernel
theorem dL_linesHold_33 : decode cL_linesHold 33 = .ok (.invokestatic 114, 3) := by decide +kernel
theorem dL_linesHold_36 : decode cL_linesHold 36 = .ok (.lstore 4, 2) := by decide +kernel
theorem dL_linesHold_38 : decode cL_linesHold 38 = .ok (.lload 4, 2) := by decide +kernel
theorem dL_linesHold_40 : decode cL_linesHold 40 = .ok (.lconst 0, 1) := by decide +kernel
theorem dL_linesHold_41 : decode cL_linesHold 41 = .ok (.lcmp, 1) := by decide +kernel
theorem dL_linesHold_42 : decode cL_linesHold 42 = .ok (.ifCond .ne 7, 3) := by decide +kernel
theorem dL_linesHold_45 : decode cL_linesHold 45 = .ok (.lconst 1, 1) := by decide +kernel
theorem dL_linesHold_46 : decode cL_linesHold 46 = .ok (.goto 34, 3) := by decide +kernel
theorem dL_linesHold_49 : decode cL_linesHold 49 = .ok (.lload 4, 2) := by decide +kernel
theorem dL_linesHold_51 : decode cL_linesHold 51 = .ok (.lconst 1, 1) := by decide +kernel
theorem dL_linesHold_52 : decode cL_linesHold 52 = .ok (.lcmp, 1) := by decide +kernel
theorem dL_linesHold_53 : decode cL_linesHold 53 = .ok (.ifCond .ne 9, 3) := by decide +kernel
theorem dL_linesHold_56 : decode cL_linesHold 56 = .ok (.ldc2_w 119, 3) := by decide +kernel
theorem dL_linesHold_59 : decode cL_linesHold 59 = .ok (.goto 21, 3) := by decide +kernel
theorem dL_linesHold_62 : decode cL_linesHold 62 = .ok (.lload 4, 2) := by decide +kernel
theorem dL_linesHold_64 : decode cL_linesHold 64 = .ok (.ldc2_w 121, 3) := by decide +kernel
theorem dL_linesHold_67 : decode cL_linesHold 67 = .ok (.lcmp, 1) := by decide +kernel
theorem dL_linesHold_68 : decode cL_linesHold 68 = .ok (.ifCond .ne 9, 3) := by decide +kernel
theorem dL_linesHold_71 : decode cL_linesHold 71 = .ok (.ldc2_w 123, 3) := by decide +kernel
theorem dL_linesHold_74 : decode cL_linesHold 74 = .ok (.goto 6, 3) := by decide +kernel
theorem dL_linesHold_77 : decode cL_linesHold 77 = .ok (.ldc2_w 125, 3) := by decide +kernel
theorem dL_linesHold_80 : decode cL_linesHold 80 = .ok (.lstore 6, 2) := by decide +kernel
theorem dL_linesHold_82 : decode cL_linesHold 82 = .ok (.aload_n 0, 1) := by decide +kernel
theorem dL_linesHold_83 : decode cL_linesHold 83 = .ok (.iload_n 3, 1) := by decide +kernel
theorem dL_linesHold_84 : decode cL_linesHold 84 = .ok (.iconst 5, 1) := by decide +kernel
theorem dL_linesHold_85 : decode cL_linesHold 85 = .ok (.invokestatic 114, 3) := by decide +kernel
theorem dL_linesHold_88 : decode cL_linesHold 88 = .ok (.lstore 8, 2) := by decide +kernel
theorem dL_linesHold_90 : decode cL_linesHold 90 = .ok (.aload_n 0, 1) := by decide +kernel
theorem dL_linesHold_91 : decode cL_linesHold 91 = .ok (.iload_n 3, 1) := by decide +kernel
theorem dL_linesHold_92 : decode cL_linesHold 92 = .ok (.bipush 6, 2) := by decide +kernel
theorem dL_linesHold_94 : decode cL_linesHold 94 = .ok (.invokestatic 114, 3) := by decide +kernel
theorem dL_linesHold_97 : decode cL_linesHold 97 = .ok (.lstore 10, 2) := by decide +kernel
theorem dL_linesHold_99 : decode cL_linesHold 99 = .ok (.aload_n 0, 1) := by decide +kernel
theorem dL_linesHold_100 : decode cL_linesHold 100 = .ok (.iload_n 3, 1) := by decide +kernel
theorem dL_linesHold_101 : decode cL_linesHold 101 = .ok (.bipush 7, 2) := by decide +kernel
theorem dL_linesHold_103 : decode cL_linesHold 103 = .ok (.invokestatic 114, 3) := by decide +kernel
theorem dL_linesHold_106 : decode cL_linesHold 106 = .ok (.lstore 12, 2) := by decide +kernel
theorem dL_linesHold_108 : decode cL_linesHold 108 = .ok (.lload 8, 2) := by decide +kernel
theorem dL_linesHold_110 : decode cL_linesHold 110 = .ok (.lconst 0, 1) := by decide +kernel
theorem dL_linesHold_111 : decode cL_linesHold 111 = .ok (.lcmp, 1) := by decide +kernel
theorem dL_linesHold_112 : decode cL_linesHold 112 = .ok (.ifCond .ge 9, 3) := by decide +kernel
theorem dL_linesHold_115 : decode cL_linesHold 115 = .ok (.lload 8, 2) := by decide +kernel
theorem dL_linesHold_117 : decode cL_linesHold 117 = .ok (.lneg, 1) := by decide +kernel
theorem dL_linesHold_118 : decode cL_linesHold 118 = .ok (.goto 5, 3) := by decide +kernel
theorem dL_linesHold_121 : decode cL_linesHold 121 = .ok (.lload 8, 2) := by decide +kernel
theorem dL_linesHold_123 : decode cL_linesHold 123 = .ok (.lstore 14, 2) := by decide +kernel
theorem dL_linesHold_125 : decode cL_linesHold 125 = .ok (.lload 4, 2) := by decide +kernel
theorem dL_linesHold_127 : decode cL_linesHold 127 = .ok (.lconst 0, 1) := by decide +kernel
theorem dL_linesHold_128 : decode cL_linesHold 128 = .ok (.lcmp, 1) := by decide +kernel
theorem dL_linesHold_129 : decode cL_linesHold 129 = .ok (.ifCond .lt 180, 3) := by decide +kernel
theorem dL_linesHold_132 : decode cL_linesHold 132 = .ok (.lload 4, 2) := by decide +kernel
theorem dL_linesHold_134 : decode cL_linesHold 134 = .ok (.ldc2_w 119, 3) := by decide +kernel
theorem dL_linesHold_137 : decode cL_linesHold 137 = .ok (.lcmp, 1) := by decide +kernel
theorem dL_linesHold_138 : decode cL_linesHold 138 = .ok (.ifCond .gt 171, 3) := by decide +kernel
theorem dL_linesHold_141 : decode cL_linesHold 141 = .ok (.aload_n 0, 1) := by decide +kernel
theorem dL_linesHold_142 : decode cL_linesHold 142 = .ok (.iload_n 3, 1) := by decide +kernel
theorem dL_linesHold_143 : decode cL_linesHold 143 = .ok (.invokestatic 127, 3) := by decide +kernel
theorem dL_linesHold_146 : decode cL_linesHold 146 = .ok (.lload 6, 2) := by decide +kernel
theorem dL_linesHold_148 : decode cL_linesHold 148 = .ok (.lcmp, 1) := by decide +kernel
theorem dL_linesHold_149 : decode cL_linesHold 149 = .ok (.ifCond .ne 160, 3) := by decide +kernel
theorem dL_linesHold_152 : decode cL_linesHold 152 = .ok (.aload_n 0, 1) := by decide +kernel
theorem dL_linesHold_153 : decode cL_linesHold 153 = .ok (.iload_n 3, 1) := by decide +kernel
theorem dL_linesHold_154 : decode cL_linesHold 154 = .ok (.iconst 4, 1) := by decide +kernel
theorem dL_linesHold_155 : decode cL_linesHold 155 = .ok (.invokestatic 114, 3) := by decide +kernel
theorem dL_linesHold_158 : decode cL_linesHold 158 = .ok (.lload 6, 2) := by decide +kernel
theorem dL_linesHold_160 : decode cL_linesHold 160 = .ok (.lcmp, 1) := by decide +kernel
theorem dL_linesHold_161 : decode cL_linesHold 161 = .ok (.ifCond .ne 148, 3) := by decide +kernel
theorem dL_linesHold_164 : decode cL_linesHold 164 = .ok (.lload 10, 2) := by decide +kernel
theorem dL_linesHold_166 : decode cL_linesHold 166 = .ok (.lconst 0, 1) := by decide +kernel
theorem dL_linesHold_167 : decode cL_linesHold 167 = .ok (.lcmp, 1) := by decide +kernel
theorem dL_linesHold_168 : decode cL_linesHold 168 = .ok (.ifCond .lt 141, 3) := by decide +kernel
theorem dL_linesHold_171 : decode cL_linesHold 171 = .ok (.lload 10, 2) := by decide +kernel
theorem dL_linesHold_173 : decode cL_linesHold 173 = .ok (.ldc2_w 130, 3) := by decide +kernel
theorem dL_linesHold_176 : decode cL_linesHold 176 = .ok (.lcmp, 1) := by decide +kernel
theorem dL_linesHold_177 : decode cL_linesHold 177 = .ok (.ifCond .gt 132, 3) := by decide +kernel
theorem dL_linesHold_180 : decode cL_linesHold 180 = .ok (.lload 12, 2) := by decide +kernel
theorem dL_linesHold_182 : decode cL_linesHold 182 = .ok (.lconst 0, 1) := by decide +kernel
theorem dL_linesHold_183 : decode cL_linesHold 183 = .ok (.lcmp, 1) := by decide +kernel
theorem dL_linesHold_184 : decode cL_linesHold 184 = .ok (.ifCond .ne 23, 3) := by decide +kernel
theorem dL_linesHold_187 : decode cL_linesHold 187 = .ok (.lload 10, 2) := by decide +kernel
theorem dL_linesHold_189 : decode cL_linesHold 189 = .ok (.ldc2_w 132, 3) := by decide +kernel
theorem dL_linesHold_192 : decode cL_linesHold 192 = .ok (.lcmp, 1) := by decide +kernel
theorem dL_linesHold_193 : decode cL_linesHold 193 = .ok (.ifCond .ge 116, 3) := by decide +kernel
theorem dL_linesHold_196 : decode cL_linesHold 196 = .ok (.aload_n 0, 1) := by decide +kernel
theorem dL_linesHold_197 : decode cL_linesHold 197 = .ok (.iload_n 3, 1) := by decide +kernel
theorem dL_linesHold_198 : decode cL_linesHold 198 = .ok (.iconst 2, 1) := by decide +kernel
theorem dL_linesHold_199 : decode cL_linesHold 199 = .ok (.invokestatic 114, 3) := by decide +kernel
theorem dL_linesHold_202 : decode cL_linesHold 202 = .ok (.lconst 1, 1) := by decide +kernel
theorem dL_linesHold_203 : decode cL_linesHold 203 = .ok (.lcmp, 1) := by decide +kernel
theorem dL_linesHold_204 : decode cL_linesHold 204 = .ok (.ifCond .lt 105, 3) := by decide +kernel
theorem dL_linesHold_207 : decode cL_linesHold 207 = .ok (.lload 12, 2) := by decide +kernel
theorem dL_linesHold_209 : decode cL_linesHold 209 = .ok (.ldc2_w 119, 3) := by decide +kernel
theorem dL_linesHold_212 : decode cL_linesHold 212 = .ok (.lcmp, 1) := by decide +kernel
theorem dL_linesHold_213 : decode cL_linesHold 213 = .ok (.ifCond .ne 7, 3) := by decide +kernel
theorem dL_linesHold_216 : decode cL_linesHold 216 = .ok (.iconst 1, 1) := by decide +kernel
theorem dL_linesHold_217 : decode cL_linesHold 217 = .ok (.goto 4, 3) := by decide +kernel
theorem dL_linesHold_220 : decode cL_linesHold 220 = .ok (.iconst 0, 1) := by decide +kernel
theorem dL_linesHold_221 : decode cL_linesHold 221 = .ok (.lload 10, 2) := by decide +kernel
theorem dL_linesHold_223 : decode cL_linesHold 223 = .ok (.ldc2_w 132, 3) := by decide +kernel
theorem dL_linesHold_226 : decode cL_linesHold 226 = .ok (.lcmp, 1) := by decide +kernel
theorem dL_linesHold_227 : decode cL_linesHold 227 = .ok (.ifCond .lt 7, 3) := by decide +kernel
theorem dL_linesHold_230 : decode cL_linesHold 230 = .ok (.iconst 1, 1) := by decide +kernel
theorem dL_linesHold_231 : decode cL_linesHold 231 = .ok (.goto 4, 3) := by decide +kernel
theorem dL_linesHold_234 : decode cL_linesHold 234 = .ok (.iconst 0, 1) := by decide +kernel
theorem dL_linesHold_235 : decode cL_linesHold 235 = .ok (.if_icmp .ne 74, 3) := by decide +kernel
theorem dL_linesHold_238 : decode cL_linesHold 238 = .ok (.aload_n 0, 1) := by decide +kernel
theorem dL_linesHold_239 : decode cL_linesHold 239 = .ok (.iload_n 3, 1) := by decide +kernel
theorem dL_linesHold_240 : decode cL_linesHold 240 = .ok (.bipush 8, 2) := by decide +kernel
theorem dL_linesHold_242 : decode cL_linesHold 242 = .ok (.invokestatic 114, 3) := by decide +kernel
theorem dL_linesHold_245 : decode cL_linesHold 245 = .ok (.aload_n 0, 1) := by decide +kernel
theorem dL_linesHold_246 : decode cL_linesHold 246 = .ok (.iload_n 3, 1) := by decide +kernel
theorem dL_linesHold_247 : decode cL_linesHold 247 = .ok (.iconst 3, 1) := by decide +kernel
theorem dL_linesHold_248 : decode cL_linesHold 248 = .ok (.invokestatic 114, 3) := by decide +kernel
theorem dL_linesHold_251 : decode cL_linesHold 251 = .ok (.ldc2_w 130, 3) := by decide +kernel
theorem dL_linesHold_254 : decode cL_linesHold 254 = .ok (.lload 10, 2) := by decide +kernel
theorem dL_linesHold_256 : decode cL_linesHold 256 = .ok (.lsub, 1) := by decide +kernel
theorem dL_linesHold_257 : decode cL_linesHold 257 = .ok (.lmul, 1) := by decide +kernel
theorem dL_linesHold_258 : decode cL_linesHold 258 = .ok (.ldc2_w 130, 3) := by decide +kernel
theorem dL_linesHold_261 : decode cL_linesHold 261 = .ok (.ldiv, 1) := by decide +kernel
theorem dL_linesHold_262 : decode cL_linesHold 262 = .ok (.lcmp, 1) := by decide +kernel
theorem dL_linesHold_263 : decode cL_linesHold 263 = .ok (.ifCond .ne 46, 3) := by decide +kernel
theorem dL_linesHold_266 : decode cL_linesHold 266 = .ok (.aload_n 0, 1) := by decide +kernel
theorem dL_linesHold_267 : decode cL_linesHold 267 = .ok (.iload_n 3, 1) := by decide +kernel
theorem dL_linesHold_268 : decode cL_linesHold 268 = .ok (.bipush 9, 2) := by decide +kernel
theorem dL_linesHold_270 : decode cL_linesHold 270 = .ok (.invokestatic 114, 3) := by decide +kernel
theorem dL_linesHold_273 : decode cL_linesHold 273 = .ok (.lload 14, 2) := by decide +kernel
theorem dL_linesHold_275 : decode cL_linesHold 275 = .ok (.ldc2_w 121, 3) := by decide +kernel
theorem dL_linesHold_278 : decode cL_linesHold 278 = .ok (.lload 6, 2) := by decide +kernel
theorem dL_linesHold_280 : decode cL_linesHold 280 = .ok (.lmul, 1) := by decide +kernel
theorem dL_linesHold_281 : decode cL_linesHold 281 = .ok (.lcmp, 1) := by decide +kernel
theorem dL_linesHold_282 : decode cL_linesHold 282 = .ok (.ifCond .gt 7, 3) := by decide +kernel
theorem dL_linesHold_285 : decode cL_linesHold 285 = .ok (.lconst 1, 1) := by decide +kernel
theorem dL_linesHold_286 : decode cL_linesHold 286 = .ok (.goto 4, 3) := by decide +kernel
theorem dL_linesHold_289 : decode cL_linesHold 289 = .ok (.lconst 0, 1) := by decide +kernel
theorem dL_linesHold_290 : decode cL_linesHold 290 = .ok (.lcmp, 1) := by decide +kernel
theorem dL_linesHold_291 : decode cL_linesHold 291 = .ok (.ifCond .ne 18, 3) := by decide +kernel
theorem dL_linesHold_294 : decode cL_linesHold 294 = .ok (.aload_n 0, 1) := by decide +kernel
theorem dL_linesHold_295 : decode cL_linesHold 295 = .ok (.iload_n 3, 1) := by decide +kernel
theorem dL_linesHold_296 : decode cL_linesHold 296 = .ok (.iconst 2, 1) := by decide +kernel
theorem dL_linesHold_297 : decode cL_linesHold 297 = .ok (.invokestatic 114, 3) := by decide +kernel
theorem dL_linesHold_300 : decode cL_linesHold 300 = .ok (.lconst 0, 1) := by decide +kernel
theorem dL_linesHold_301 : decode cL_linesHold 301 = .ok (.lcmp, 1) := by decide +kernel
theorem dL_linesHold_302 : decode cL_linesHold 302 = .ok (.ifCond .lt 7, 3) := by decide +kernel
theorem dL_linesHold_305 : decode cL_linesHold 305 = .ok (.iconst 1, 1) := by decide +kernel
theorem dL_linesHold_306 : decode cL_linesHold 306 = .ok (.goto 4, 3) := by decide +kernel
theorem dL_linesHold_309 : decode cL_linesHold 309 = .ok (.iconst 0, 1) := by decide +kernel
theorem dL_linesHold_310 : decode cL_linesHold 310 = .ok (.istore_n 2, 1) := by decide +kernel
theorem dL_linesHold_311 : decode cL_linesHold 311 = .ok (.iinc 3 1, 3) := by decide +kernel
theorem dL_linesHold_314 : decode cL_linesHold 314 = .ok (.goto (-293), 3) := by decide +kernel
theorem dL_linesHold_317 : decode cL_linesHold 317 = .ok (.iload_n 2, 1) := by decide +kernel
theorem dL_linesHold_318 : decode cL_linesHold 318 = .ok (.ireturn, 1) := by decide +kernel
theorem dL_carries_0 : decode cL_carries 0 = .ok (.lconst 0, 1) := by decide +kernel
theorem dL_carries_1 : decode cL_carries 1 = .ok (.lstore 4, 2) := by decide +kernel
theorem dL_carries_3 : decode cL_carries 3 = .ok (.lload_n 0, 1) := by decide +kernel
theorem dL_carries_4 : decode cL_carries 4 = .ok (.lstore 6, 2) := by decide +kernel
theorem dL_carries_6 : decode cL_carries 6 = .ok (.iconst 0, 1) := by decide +kernel
theorem dL_carries_7 : decode cL_carries 7 = .ok (.istore 8, 2) := by decide +kernel
theorem dL_carries_9 : decode cL_carries 9 = .ok (.iload 8, 2) := by decide +kernel
theorem dL_carries_11 : decode cL_carries 11 = .ok (.iload_n 2, 1) := by decide +kernel
theorem dL_carries_12 : decode cL_carries 12 = .ok (.if_icmp .ge 30, 3) := by decide +kernel
theorem dL_carries_15 : decode cL_carries 15 = .ok (.lload 4, 2) := by decide +kernel
theorem dL_carries_17 : decode cL_carries 17 = .ok (.lload 6, 2) := by decide +kernel
theorem dL_carries_19 : decode cL_carries 19 = .ok (.ladd, 1) := by decide +kernel
theorem dL_carries_20 : decode cL_carries 20 = .ok (.lstore 4, 2) := by decide +kernel
theorem dL_carries_22 : decode cL_carries 22 = .ok (.lload 6, 2) := by decide +kernel
theorem dL_carries_24 : decode cL_carries 24 = .ok (.bipush 100, 2) := by decide +kernel
theorem dL_carries_26 : decode cL_carries 26 = .ok (.iload_n 3, 1) := by decide +kernel
theorem dL_carries_27 : decode cL_carries 27 = .ok (.isub, 1) := by decide +kernel
theorem dL_carries_28 : decode cL_carries 28 = .ok (.i2l, 1) := by decide +kernel
theorem dL_carries_29 : decode cL_carries 29 = .ok (.lmul, 1) := by decide +kernel
theorem dL_carries_30 : decode cL_carries 30 = .ok (.ldc2_w 134, 3) := by decide +kernel
theorem dL_carries_33 : decode cL_carries 33 = .ok (.ldiv, 1) := by decide +kernel
theorem dL_carries_34 : decode cL_carries 34 = .ok (.lstore 6, 2) := by decide +kernel
theorem dL_carries_36 : decode cL_carries 36 = .ok (.iinc 8 1, 3) := by decide +kernel
theorem dL_carries_39 : decode cL_carries 39 = .ok (.goto (-30), 3) := by decide +kernel
theorem dL_carries_42 : decode cL_carries 42 = .ok (.lload 4, 2) := by decide +kernel
theorem dL_carries_44 : decode cL_carries 44 = .ok (.lreturn, 1) := by decide +kernel
theorem dL_rigHolds_0 : decode cL_rigHolds 0 = .ok (.aload_n 0, 1) := by decide +kernel
theorem dL_rigHolds_1 : decode cL_rigHolds 1 = .ok (.iload_n 1, 1) := by decide +kernel
theorem dL_rigHolds_2 : decode cL_rigHolds 2 = .ok (.iload 5, 2) := by decide +kernel
theorem dL_rigHolds_4 : decode cL_rigHolds 4 = .ok (.invokestatic 136, 3) := by decide +kernel
theorem dL_rigHolds_7 : decode cL_rigHolds 7 = .ok (.lstore 6, 2) := by decide +kernel
theorem dL_rigHolds_9 : decode cL_rigHolds 9 = .ok (.lload 6, 2) := by decide +kernel
theorem dL_rigHolds_11 : decode cL_rigHolds 11 = .ok (.iload_n 3, 1) := by decide +kernel
theorem dL_rigHolds_12 : decode cL_rigHolds 12 = .ok (.iload 4, 2) := by decide +kernel
theorem dL_rigHolds_14 : decode cL_rigHolds 14 = .ok (.invokestatic 138, 3) := by decide +kernel
theorem dL_rigHolds_17 : decode cL_rigHolds 17 = .ok (.iload 5, 2) := by decide +kernel
theorem dL_rigHolds_19 : decode cL_rigHolds 19 = .ok (.i2l, 1) := by decide +kernel
theorem dL_rigHolds_20 : decode cL_rigHolds 20 = .ok (.lcmp, 1) := by decide +kernel
theorem dL_rigHolds_21 : decode cL_rigHolds 21 = .ok (.ifCond .lt 42, 3) := by decide +kernel
theorem dL_rigHolds_24 : decode cL_rigHolds 24 = .ok (.lload 6, 2) := by decide +kernel
theorem dL_rigHolds_26 : decode cL_rigHolds 26 = .ok (.lconst 0, 1) := by decide +kernel
theorem dL_rigHolds_27 : decode cL_rigHolds 27 = .ok (.lcmp, 1) := by decide +kernel
theorem dL_rigHolds_28 : decode cL_rigHolds 28 = .ok (.ifCond .eq 20, 3) := by decide +kernel
theorem dL_rigHolds_31 : decode cL_rigHolds 31 = .ok (.lload 6, 2) := by decide +kernel
theorem dL_rigHolds_33 : decode cL_rigHolds 33 = .ok (.lconst 1, 1) := by decide +kernel
theorem dL_rigHolds_34 : decode cL_rigHolds 34 = .ok (.lsub, 1) := by decide +kernel
theorem dL_rigHolds_35 : decode cL_rigHolds 35 = .ok (.iload_n 3, 1) := by decide +kernel
theorem dL_rigHolds_36 : decode cL_rigHolds 36 = .ok (.iload 4, 2) := by decide +kernel
theorem dL_rigHolds_38 : decode cL_rigHolds 38 = .ok (.invokestatic 138, 3) := by decide +kernel
theorem dL_rigHolds_41 : decode cL_rigHolds 41 = .ok (.iload 5, 2) := by decide +kernel
theorem dL_rigHolds_43 : decode cL_rigHolds 43 = .ok (.i2l, 1) := by decide +kernel
theorem dL_rigHolds_44 : decode cL_rigHolds 44 = .ok (.lcmp, 1) := by decide +kernel
theorem dL_rigHolds_45 : decode cL_rigHolds 45 = .ok (.ifCond .ge 18, 3) := by decide +kernel
theorem dL_rigHolds_48 : decode cL_rigHolds 48 = .ok (.aload_n 0, 1) := by decide +kernel
theorem dL_rigHolds_49 : decode cL_rigHolds 49 = .ok (.iload_n 1, 1) := by decide +kernel
theorem dL_rigHolds_50 : decode cL_rigHolds 50 = .ok (.iconst 0, 1) := by decide +kernel
theorem dL_rigHolds_51 : decode cL_rigHolds 51 = .ok (.invokestatic 136, 3) := by decide +kernel
theorem dL_rigHolds_54 : decode cL_rigHolds 54 = .ok (.lconst 0, 1) := by decide +kernel
theorem dL_rigHolds_55 : decode cL_rigHolds 55 = .ok (.lcmp, 1) := by decide +kernel
theorem dL_rigHolds_56 : decode cL_rigHolds 56 = .ok (.ifCond .ne 7, 3) := by decide +kernel
theorem dL_rigHolds_59 : decode cL_rigHolds 59 = .ok (.iconst 1, 1) := by decide +kernel
theorem dL_rigHolds_60 : decode cL_rigHolds 60 = .ok (.goto 4, 3) := by decide +kernel
theorem dL_rigHolds_63 : decode cL_rigHolds 63 = .ok (.iconst 0, 1) := by decide +kernel
theorem dL_rigHolds_64 : decode cL_rigHolds 64 = .ok (.istore 8, 2) := by decide +kernel
theorem dL_rigHolds_66 : decode cL_rigHolds 66 = .ok (.aload_n 0, 1) := by decide +kernel
theorem dL_rigHolds_67 : decode cL_rigHolds 67 = .ok (.iload_n 2, 1) := by decide +kernel
theorem dL_rigHolds_68 : decode cL_rigHolds 68 = .ok (.bipush 7, 2) := by decide +kernel
theorem dL_rigHolds_70 : decode cL_rigHolds 70 = .ok (.invokestatic 114, 3) := by decide +kernel
theorem dL_rigHolds_73 : decode cL_rigHolds 73 = .ok (.lconst 0, 1) := by decide +kernel
theorem dL_rigHolds_74 : decode cL_rigHolds 74 = .ok (.lcmp, 1) := by decide +kernel
theorem dL_rigHolds_75 : decode cL_rigHolds 75 = .ok (.ifCond .ne 24, 3) := by decide +kernel
theorem dL_rigHolds_78 : decode cL_rigHolds 78 = .ok (.lload 6, 2) := by decide +kernel
theorem dL_rigHolds_80 : decode cL_rigHolds 80 = .ok (.aload_n 0, 1) := by decide +kernel
theorem dL_rigHolds_81 : decode cL_rigHolds 81 = .ok (.iload_n 2, 1) := by decide +kernel
theorem dL_rigHolds_82 : decode cL_rigHolds 82 = .ok (.bipush 8, 2) := by decide +kernel
theorem dL_rigHolds_84 : decode cL_rigHolds 84 = .ok (.invokestatic 114, 3) := by decide +kernel
theorem dL_rigHolds_87 : decode cL_rigHolds 87 = .ok (.ldc2_w 142, 3) := by decide +kernel
theorem dL_rigHolds_90 : decode cL_rigHolds 90 = .ok (.ldiv, 1) := by decide +kernel
theorem dL_rigHolds_91 : decode cL_rigHolds 91 = .ok (.lcmp, 1) := by decide +kernel
theorem dL_rigHolds_92 : decode cL_rigHolds 92 = .ok (.ifCond .gt 7, 3) := by decide +kernel
theorem dL_rigHolds_95 : decode cL_rigHolds 95 = .ok (.iconst 1, 1) := by decide +kernel
theorem dL_rigHolds_96 : decode cL_rigHolds 96 = .ok (.goto 4, 3) := by decide +kernel
theorem dL_rigHolds_99 : decode cL_rigHolds 99 = .ok (.iconst 0, 1) := by decide +kernel
theorem dL_rigHolds_100 : decode cL_rigHolds 100 = .ok (.istore 9, 2) := by decide +kernel
theorem dL_rigHolds_102 : decode cL_rigHolds 102 = .ok (.aload_n 0, 1) := by decide +kernel
theorem dL_rigHolds_103 : decode cL_rigHolds 103 = .ok (.iload_n 2, 1) := by decide +kernel
theorem dL_rigHolds_104 : decode cL_rigHolds 104 = .ok (.bipush 6, 2) := by decide +kernel
theorem dL_rigHolds_106 : decode cL_rigHolds 106 = .ok (.invokestatic 114, 3) := by decide +kernel
theorem dL_rigHolds_109 : decode cL_rigHolds 109 = .ok (.lstore 10, 2) := by decide +kernel
theorem dL_rigHolds_111 : decode cL_rigHolds 111 = .ok (.aload_n 0, 1) := by decide +kernel
theorem dL_rigHolds_112 : decode cL_rigHolds 112 = .ok (.iload_n 2, 1) := by decide +kernel
theorem dL_rigHolds_113 : decode cL_rigHolds 113 = .ok (.bipush 8, 2) := by decide +kernel
theorem dL_rigHolds_115 : decode cL_rigHolds 115 = .ok (.invokestatic 114, 3) := by decide +kernel
theorem dL_rigHolds_118 : decode cL_rigHolds 118 = .ok (.lstore 12, 2) := by decide +kernel
theorem dL_rigHolds_120 : decode cL_rigHolds 120 = .ok (.iload 8, 2) := by decide +kernel
theorem dL_rigHolds_122 : decode cL_rigHolds 122 = .ok (.ifCond .eq 28, 3) := by decide +kernel
theorem dL_rigHolds_125 : decode cL_rigHolds 125 = .ok (.aload_n 0, 1) := by decide +kernel
theorem dL_rigHolds_126 : decode cL_rigHolds 126 = .ok (.iload_n 1, 1) := by decide +kernel
theorem dL_rigHolds_127 : decode cL_rigHolds 127 = .ok (.iload 5, 2) := by decide +kernel
theorem dL_rigHolds_129 : decode cL_rigHolds 129 = .ok (.invokestatic 144, 3) := by decide +kernel
theorem dL_rigHolds_132 : decode cL_rigHolds 132 = .ok (.iload 9, 2) := by decide +kernel
theorem dL_rigHolds_134 : decode cL_rigHolds 134 = .ok (.ifCond .eq 7, 3) := by decide +kernel
theorem dL_rigHolds_137 : decode cL_rigHolds 137 = .ok (.lconst 1, 1) := by decide +kernel
theorem dL_rigHolds_138 : decode cL_rigHolds 138 = .ok (.goto 4, 3) := by decide +kernel
theorem dL_rigHolds_141 : decode cL_rigHolds 141 = .ok (.lconst 0, 1) := by decide +kernel
theorem dL_rigHolds_142 : decode cL_rigHolds 142 = .ok (.lcmp, 1) := by decide +kernel
theorem dL_rigHolds_143 : decode cL_rigHolds 143 = .ok (.ifCond .ne 7, 3) := by decide +kernel
theorem dL_rigHolds_146 : decode cL_rigHolds 146 = .ok (.iconst 1, 1) := by decide +kernel
theorem dL_rigHolds_147 : decode cL_rigHolds 147 = .ok (.goto 4, 3) := by decide +kernel
theorem dL_rigHolds_150 : decode cL_rigHolds 150 = .ok (.iconst 0, 1) := by decide +kernel
theorem dL_rigHolds_151 : decode cL_rigHolds 151 = .ok (.istore 8, 2) := by decide +kernel
theorem dL_rigHolds_153 : decode cL_rigHolds 153 = .ok (.iload 9, 2) := by decide +kernel
theorem dL_rigHolds_155 : decode cL_rigHolds 155 = .ok (.ifCond .eq 25, 3) := by decide +kernel
theorem dL_rigHolds_158 : decode cL_rigHolds 158 = .ok (.ldc2_w 146, 3) := by decide +kernel
theorem dL_rigHolds_161 : decode cL_rigHolds 161 = .ok (.lload 6, 2) := by decide +kernel
theorem dL_rigHolds_163 : decode cL_rigHolds 163 = .ok (.lmul, 1) := by decide +kernel
theorem dL_rigHolds_164 : decode cL_rigHolds 164 = .ok (.lload 12, 2) := by decide +kernel
theorem dL_rigHolds_166 : decode cL_rigHolds 166 = .ok (.ldiv, 1) := by decide +kernel
theorem dL_rigHolds_167 : decode cL_rigHolds 167 = .ok (.ldc2_w 146, 3) := by decide +kernel
theorem dL_rigHolds_170 : decode cL_rigHolds 170 = .ok (.lload 6, 2) := by decide +kernel
theorem dL_rigHolds_172 : decode cL_rigHolds 172 = .ok (.lmul, 1) := by decide +kernel
theorem dL_rigHolds_173 : decode cL_rigHolds 173 = .ok (.lload 12, 2) := by decide +kernel
theorem dL_rigHolds_175 : decode cL_rigHolds 175 = .ok (.ldiv, 1) := by decide +kernel
theorem dL_rigHolds_176 : decode cL_rigHolds 176 = .ok (.lmul, 1) := by decide +kernel
theorem dL_rigHolds_177 : decode cL_rigHolds 177 = .ok (.goto 4, 3) := by decide +kernel
theorem dL_rigHolds_180 : decode cL_rigHolds 180 = .ok (.lconst 0, 1) := by decide +kernel
theorem dL_rigHolds_181 : decode cL_rigHolds 181 = .ok (.lstore 14, 2) := by decide +kernel
theorem dL_rigHolds_183 : decode cL_rigHolds 183 = .ok (.iload 8, 2) := by decide +kernel
theorem dL_rigHolds_185 : decode cL_rigHolds 185 = .ok (.ifCond .eq 41, 3) := by decide +kernel
theorem dL_rigHolds_188 : decode cL_rigHolds 188 = .ok (.aload_n 0, 1) := by decide +kernel
theorem dL_rigHolds_189 : decode cL_rigHolds 189 = .ok (.iload_n 2, 1) := by decide +kernel
theorem dL_rigHolds_190 : decode cL_rigHolds 190 = .ok (.bipush 6, 2) := by decide +kernel
theorem dL_rigHolds_192 : decode cL_rigHolds 192 = .ok (.invokestatic 114, 3) := by decide +kernel
theorem dL_rigHolds_195 : decode cL_rigHolds 195 = .ok (.lload 10, 2) := by decide +kernel
theorem dL_rigHolds_197 : decode cL_rigHolds 197 = .ok (.lload 14, 2) := by decide +kernel
theorem dL_rigHolds_199 : decode cL_rigHolds 199 = .ok (.ladd, 1) := by decide +kernel
theorem dL_rigHolds_200 : decode cL_rigHolds 200 = .ok (.ldc2_w 130, 3) := by decide +kernel
theorem dL_rigHolds_203 : decode cL_rigHolds 203 = .ok (.lcmp, 1) := by decide +kernel
theorem dL_rigHolds_204 : decode cL_rigHolds 204 = .ok (.ifCond .le 9, 3) := by decide +kernel
theorem dL_rigHolds_207 : decode cL_rigHolds 207 = .ok (.ldc2_w 130, 3) := by decide +kernel
theorem dL_rigHolds_210 : decode cL_rigHolds 210 = .ok (.goto 8, 3) := by decide +kernel
theorem dL_rigHolds_213 : decode cL_rigHolds 213 = .ok (.lload 10, 2) := by decide +kernel
theorem dL_rigHolds_215 : decode cL_rigHolds 215 = .ok (.lload 14, 2) := by decide +kernel
theorem dL_rigHolds_217 : decode cL_rigHolds 217 = .ok (.ladd, 1) := by decide +kernel
theorem dL_rigHolds_218 : decode cL_rigHolds 218 = .ok (.lcmp, 1) := by decide +kernel
theorem dL_rigHolds_219 : decode cL_rigHolds 219 = .ok (.ifCond .ne 7, 3) := by decide +kernel
theorem dL_rigHolds_222 : decode cL_rigHolds 222 = .ok (.iconst 1, 1) := by decide +kernel
theorem dL_rigHolds_223 : decode cL_rigHolds 223 = .ok (.goto 4, 3) := by decide +kernel
theorem dL_rigHolds_226 : decode cL_rigHolds 226 = .ok (.iconst 0, 1) := by decide +kernel
theorem dL_rigHolds_227 : decode cL_rigHolds 227 = .ok (.ireturn, 1) := by decide +kernel
theorem dL_braidHolds_0 : decode cL_braidHolds 0 = .ok (.iconst 0, 1) := by decide +kernel
theorem dL_braidHolds_1 : decode cL_braidHolds 1 = .ok (.istore_n 2, 1) := by decide +kernel
theorem dL_braidHolds_2 : decode cL_braidHolds 2 = .ok (.aload_n 0, 1) := by decide +kernel
theorem dL_braidHolds_3 : decode cL_braidHolds 3 = .ok (.iload_n 1, 1) := by decide +kernel
theorem dL_braidHolds_4 : decode cL_braidHolds 4 = .ok (.invokestatic 148, 3) := by decide +kernel
theorem dL_braidHolds_7 : decode cL_braidHolds 7 = .ok (.ldc2_w 17, 3) := by decide +kernel
theorem dL_braidHolds_10 : decode cL_braidHolds 10 = .ok (.lcmp, 1) := by decide +kernel
theorem dL_braidHolds_11 : decode cL_braidHolds 11 = .ok (.ifCond .ne 35, 3) := by decide +kernel
theorem dL_braidHolds_14 : decode cL_braidHolds 14 = .ok (.aload_n 0, 1) := by decide +kernel
theorem dL_braidHolds_15 : decode cL_braidHolds 15 = .ok (.invokevirtual 150, 3) := by decide +kernel
theorem dL_braidHolds_18 : decode cL_braidHolds 18 = .ok (.aload_n 0, 1) := by decide +kernel
theorem dL_braidHolds_19 : decode cL_braidHolds 19 = .ok (.invokevirtual 154, 3) := by decide +kernel
theorem dL_braidHolds_22 : decode cL_braidHolds 22 = .ok (.if_icmp .ne 24, 3) := by decide +kernel
theorem dL_braidHolds_25 : decode cL_braidHolds 25 = .ok (.aload_n 0, 1) := by decide +kernel
theorem dL_braidHolds_26 : decode cL_braidHolds 26 = .ok (.invokevirtual 150, 3) := by decide +kernel
theorem dL_braidHolds_29 : decode cL_braidHolds 29 = .ok (.iconst 1, 1) := by decide +kernel
theorem dL_braidHolds_30 : decode cL_braidHolds 30 = .ok (.if_icmp .lt 16, 3) := by decide +kernel
theorem dL_braidHolds_33 : decode cL_braidHolds 33 = .ok (.aload_n 0, 1) := by decide +kernel
theorem dL_braidHolds_34 : decode cL_braidHolds 34 = .ok (.invokevirtual 150, 3) := by decide +kernel
theorem dL_braidHolds_37 : decode cL_braidHolds 37 = .ok (.bipush 15, 2) := by decide +kernel
theorem dL_braidHolds_39 : decode cL_braidHolds 39 = .ok (.if_icmp .gt 7, 3) := by decide +kernel
theorem dL_braidHolds_42 : decode cL_braidHolds 42 = .ok (.iconst 1, 1) := by decide +kernel
theorem dL_braidHolds_43 : decode cL_braidHolds 43 = .ok (.goto 4, 3) := by decide +kernel
theorem dL_braidHolds_46 : decode cL_braidHolds 46 = .ok (.iconst 0, 1) := by decide +kernel
theorem dL_braidHolds_47 : decode cL_braidHolds 47 = .ok (.istore_n 3, 1) := by decide +kernel
theorem dL_braidHolds_48 : decode cL_braidHolds 48 = .ok (.iconst 0, 1) := by decide +kernel
theorem dL_braidHolds_49 : decode cL_braidHolds 49 = .ok (.istore 4, 2) := by decide +kernel
theorem dL_braidHolds_51 : decode cL_braidHolds 51 = .ok (.iload 4, 2) := by decide +kernel
theorem dL_braidHolds_53 : decode cL_braidHolds 53 = .ok (.iload_n 1, 1) := by decide +kernel
theorem dL_braidHolds_54 : decode cL_braidHolds 54 = .ok (.if_icmp .ge 101, 3) := by decide +kernel
theorem dL_braidHolds_57 : decode cL_braidHolds 57 = .ok (.iload_n 3, 1) := by decide +kernel
theorem dL_braidHolds_58 : decode cL_braidHolds 58 = .ok (.ifCond .eq 97, 3) := by decide +kernel
theorem dL_braidHolds_61 : decode cL_braidHolds 61 = .ok (.iload_n 2, 1) := by decide +kernel
theorem dL_braidHolds_62 : decode cL_braidHolds 62 = .ok (.iconst 1, 1) := by decide +kernel
theorem dL_braidHolds_63 : decode cL_braidHolds 63 = .ok (.aload_n 0, 1) := by decide +kernel
theorem dL_braidHolds_64 : decode cL_braidHolds 64 = .ok (.iload 4, 2) := by decide +kernel
theorem dL_braidHolds_66 : decode cL_braidHolds 66 = .ok (.invokestatic 148, 3) := by decide +kernel
theorem dL_braidHolds_69 : decode cL_braidHolds 69 = .ok (.l2i, 1) := by decide +kernel
theorem dL_braidHolds_70 : decode cL_braidHolds 70 = .ok (.ishl, 1) := by decide +kernel
theorem dL_braidHolds_71 : decode cL_braidHolds 71 = .ok (.ior, 1) := by decide +kernel
theorem dL_braidHolds_72 : decode cL_braidHolds 72 = .ok (.istore_n 2, 1) := by decide +kernel
theorem dL_braidHolds_73 : decode cL_braidHolds 73 = .ok (.iconst 0, 1) := by decide +kernel
theorem dL_braidHolds_74 : decode cL_braidHolds 74 = .ok (.istore 5, 2) := by decide +kernel
theorem dL_braidHolds_76 : decode cL_braidHolds 76 = .ok (.iload 5, 2) := by decide +kernel
theorem dL_braidHolds_78 : decode cL_braidHolds 78 = .ok (.iload_n 1, 1) := by decide +kernel
theorem dL_braidHolds_79 : decode cL_braidHolds 79 = .ok (.if_icmp .ge 70, 3) := by decide +kernel
theorem dL_braidHolds_82 : decode cL_braidHolds 82 = .ok (.iload_n 3, 1) := by decide +kernel
theorem dL_braidHolds_83 : decode cL_braidHolds 83 = .ok (.ifCond .eq 66, 3) := by decide +kernel
theorem dL_braidHolds_86 : decode cL_braidHolds 86 = .ok (.iload 5, 2) := by decide +kernel
theorem dL_braidHolds_88 : decode cL_braidHolds 88 = .ok (.iload 4, 2) := by decide +kernel
theorem dL_braidHolds_90 : decode cL_braidHolds 90 = .ok (.if_icmp .ne 26, 3) := by decide +kernel
theorem dL_braidHolds_93 : decode cL_braidHolds 93 = .ok (.aload_n 0, 1) := by decide +kernel
theorem dL_braidHolds_94 : decode cL_braidHolds 94 = .ok (.iload 4, 2) := by decide +kernel
theorem dL_braidHolds_96 : decode cL_braidHolds 96 = .ok (.iload 5, 2) := by decide +kernel
theorem dL_braidHolds_98 : decode cL_braidHolds 98 = .ok (.invokestatic 157, 3) := by decide +kernel
theorem dL_braidHolds_101 : decode cL_braidHolds 101 = .ok (.ldc2_w 21, 3) := by decide +kernel
theorem dL_braidHolds_104 : decode cL_braidHolds 104 = .ok (.lcmp, 1) := by decide +kernel
theorem dL_braidHolds_105 : decode cL_braidHolds 105 = .ok (.ifCond .ne 7, 3) := by decide +kernel
theorem dL_braidHolds_108 : decode cL_braidHolds 108 = .ok (.iconst 1, 1) := by decide +kernel
theorem dL_braidHolds_109 : decode cL_braidHolds 109 = .ok (.goto 33, 3) := by decide +kernel
theorem dL_braidHolds_112 : decode cL_braidHolds 112 = .ok (.iconst 0, 1) := by decide +kernel
theorem dL_braidHolds_113 : decode cL_braidHolds 113 = .ok (.goto 29, 3) := by decide +kernel
theorem dL_braidHolds_116 : decode cL_braidHolds 116 = .ok (.aload_n 0, 1) := by decide +kernel
theorem dL_braidHolds_117 : decode cL_braidHolds 117 = .ok (.iload 4, 2) := by decide +kernel
theorem dL_braidHolds_119 : decode cL_braidHolds 119 = .ok (.iload 5, 2) := by decide +kernel
theorem dL_braidHolds_121 : decode cL_braidHolds 121 = .ok (.invokestatic 157, 3) := by decide +kernel
theorem dL_braidHolds_124 : decode cL_braidHolds 124 = .ok (.aload_n 0, 1) := by decide +kernel
theorem dL_braidHolds_125 : decode cL_braidHolds 125 = .ok (.iload 5, 2) := by decide +kernel
theorem dL_braidHolds_127 : decode cL_braidHolds 127 = .ok (.iload 4, 2) := by decide +kernel
theorem dL_braidHolds_129 : decode cL_braidHolds 129 = .ok (.invokestatic 157, 3) := by decide +kernel
theorem dL_braidHolds_132 : decode cL_braidHolds 132 = .ok (.lneg, 1) := by decide +kernel
theorem dL_braidHolds_133 : decode cL_braidHolds 133 = .ok (.lcmp, 1) := by decide +kernel
theorem dL_braidHolds_134 : decode cL_braidHolds 134 = .ok (.ifCond .ne 7, 3) := by decide +kernel
theorem dL_braidHolds_137 : decode cL_braidHolds 137 = .ok (.iconst 1, 1) := by decide +kernel
theorem dL_braidHolds_138 : decode cL_braidHolds 138 = .ok (.goto 4, 3) := by decide +kernel
theorem dL_braidHolds_141 : decode cL_braidHolds 141 = .ok (.iconst 0, 1) := by decide +kernel
theorem dL_braidHolds_142 : decode cL_braidHolds 142 = .ok (.istore_n 3, 1) := by decide +kernel
theorem dL_braidHolds_143 : decode cL_braidHolds 143 = .ok (.iinc 5 1, 3) := by decide +kernel
theorem dL_braidHolds_146 : decode cL_braidHolds 146 = .ok (.goto (-70), 3) := by decide +kernel
theorem dL_braidHolds_149 : decode cL_braidHolds 149 = .ok (.iinc 4 1, 3) := by decide +kernel
theorem dL_braidHolds_152 : decode cL_braidHolds 152 = .ok (.goto (-101), 3) := by decide +kernel
theorem dL_braidHolds_155 : decode cL_braidHolds 155 = .ok (.iload_n 3, 1) := by decide +kernel
theorem dL_braidHolds_156 : decode cL_braidHolds 156 = .ok (.ifCond .eq 16, 3) := by decide +kernel
theorem dL_braidHolds_159 : decode cL_braidHolds 159 = .ok (.iload_n 2, 1) := by decide +kernel
theorem dL_braidHolds_160 : decode cL_braidHolds 160 = .ok (.iconst 1, 1) := by decide +kernel
theorem dL_braidHolds_161 : decode cL_braidHolds 161 = .ok (.iload_n 1, 1) := by decide +kernel
theorem dL_braidHolds_162 : decode cL_braidHolds 162 = .ok (.ishl, 1) := by decide +kernel
theorem dL_braidHolds_163 : decode cL_braidHolds 163 = .ok (.iconst 1, 1) := by decide +kernel
theorem dL_braidHolds_164 : decode cL_braidHolds 164 = .ok (.isub, 1) := by decide +kernel
theorem dL_braidHolds_165 : decode cL_braidHolds 165 = .ok (.if_icmp .ne 7, 3) := by decide +kernel
theorem dL_braidHolds_168 : decode cL_braidHolds 168 = .ok (.iconst 1, 1) := by decide +kernel
theorem dL_braidHolds_169 : decode cL_braidHolds 169 = .ok (.goto 4, 3) := by decide +kernel
theorem dL_braidHolds_172 : decode cL_braidHolds 172 = .ok (.iconst 0, 1) := by decide +kernel
theorem dL_braidHolds_173 : decode cL_braidHolds 173 = .ok (.ireturn, 1) := by decide +kernel
theorem dL_refuses_0 : decode cL_refuses 0 = .ok (.aload_n 0, 1) := by decide +kernel
theorem dL_refuses_1 : decode cL_refuses 1 = .ok (.iconst 4, 1) := by decide +kernel
theorem dL_refuses_2 : decode cL_refuses 2 = .ok (.iconst 1, 1) := by decide +kernel
theorem dL_refuses_3 : decode cL_refuses 3 = .ok (.iconst 1, 1) := by decide +kernel
theorem dL_refuses_4 : decode cL_refuses 4 = .ok (.invokestatic 159, 3) := by decide +kernel
theorem dL_refuses_7 : decode cL_refuses 7 = .ok (.ldc2_w 17, 3) := by decide +kernel
theorem dL_refuses_10 : decode cL_refuses 10 = .ok (.lcmp, 1) := by decide +kernel
theorem dL_refuses_11 : decode cL_refuses 11 = .ok (.ifCond .ne 307, 3) := by decide +kernel
theorem dL_refuses_14 : decode cL_refuses 14 = .ok (.aload_n 0, 1) := by decide +kernel
theorem dL_refuses_15 : decode cL_refuses 15 = .ok (.iconst 0, 1) := by decide +kernel
theorem dL_refuses_16 : decode cL_refuses 16 = .ok (.iconst 0, 1) := by decide +kernel
theorem dL_refuses_17 : decode cL_refuses 17 = .ok (.iconst 1, 1) := by decide +kernel
theorem dL_refuses_18 : decode cL_refuses 18 = .ok (.invokestatic 159, 3) := by decide +kernel
theorem dL_refuses_21 : decode cL_refuses 21 = .ok (.ldc2_w 21, 3) := by decide +kernel
theorem dL_refuses_24 : decode cL_refuses 24 = .ok (.lcmp, 1) := by decide +kernel
theorem dL_refuses_25 : decode cL_refuses 25 = .ok (.ifCond .ne 293, 3) := by decide +kernel
theorem dL_refuses_28 : decode cL_refuses 28 = .ok (.aload_n 0, 1) := by decide +kernel
theorem dL_refuses_29 : decode cL_refuses 29 = .ok (.iconst (-1), 1) := by decide +kernel
theorem dL_refuses_30 : decode cL_refuses 30 = .ok (.iconst 1, 1) := by decide +kernel
theorem dL_refuses_31 : decode cL_refuses 31 = .ok (.iconst 0, 1) := by decide +kernel
theorem dL_refuses_32 : decode cL_refuses 32 = .ok (.iconst 1, 1) := by decide +kernel
theorem dL_refuses_33 : decode cL_refuses 33 = .ok (.invokestatic 162, 3) := by decide +kernel
theorem dL_refuses_36 : decode cL_refuses 36 = .ok (.ldc2_w 17, 3) := by decide +kernel
theorem dL_refuses_39 : decode cL_refuses 39 = .ok (.lcmp, 1) := by decide +kernel
theorem dL_refuses_40 : decode cL_refuses 40 = .ok (.ifCond .ne 278, 3) := by decide +kernel
theorem dL_refuses_43 : decode cL_refuses 43 = .ok (.aload_n 0, 1) := by decide +kernel
theorem dL_refuses_44 : decode cL_refuses 44 = .ok (.iconst 0, 1) := by decide +kernel
theorem dL_refuses_45 : decode cL_refuses 45 = .ok (.bipush 31, 2) := by decide +kernel
theorem dL_refuses_47 : decode cL_refuses 47 = .ok (.iconst 0, 1) := by decide +kernel
theorem dL_refuses_48 : decode cL_refuses 48 = .ok (.iconst 1, 1) := by decide +kernel
theorem dL_refuses_49 : decode cL_refuses 49 = .ok (.invokestatic 162, 3) := by decide +kernel
theorem dL_refuses_52 : decode cL_refuses 52 = .ok (.ldc2_w 21, 3) := by decide +kernel
theorem dL_refuses_55 : decode cL_refuses 55 = .ok (.lcmp, 1) := by decide +kernel
theorem dL_refuses_56 : decode cL_refuses 56 = .ok (.ifCond .ne 262, 3) := by decide +kernel
theorem dL_refuses_59 : decode cL_refuses 59 = .ok (.aload_n 0, 1) := by decide +kernel
theorem dL_refuses_60 : decode cL_refuses 60 = .ok (.iconst 0, 1) := by decide +kernel
theorem dL_refuses_61 : decode cL_refuses 61 = .ok (.iconst 1, 1) := by decide +kernel
theorem dL_refuses_62 : decode cL_refuses 62 = .ok (.iconst 2, 1) := by decide +kernel
theorem dL_refuses_63 : decode cL_refuses 63 = .ok (.iconst 1, 1) := by decide +kernel
theorem dL_refuses_64 : decode cL_refuses 64 = .ok (.invokestatic 162, 3) := by decide +kernel
theorem dL_refuses_67 : decode cL_refuses 67 = .ok (.ldc2_w 21, 3) := by decide +kernel
theorem dL_refuses_70 : decode cL_refuses 70 = .ok (.lcmp, 1) := by decide +kernel
theorem dL_refuses_71 : decode cL_refuses 71 = .ok (.ifCond .ne 247, 3) := by decide +kernel
theorem dL_refuses_74 : decode cL_refuses 74 = .ok (.aload_n 0, 1) := by decide +kernel
theorem dL_refuses_75 : decode cL_refuses 75 = .ok (.iconst 0, 1) := by decide +kernel
theorem dL_refuses_76 : decode cL_refuses 76 = .ok (.iconst 1, 1) := by decide +kernel
theorem dL_refuses_77 : decode cL_refuses 77 = .ok (.iconst 0, 1) := by decide +kernel
theorem dL_refuses_78 : decode cL_refuses 78 = .ok (.sipush 10001, 3) := by decide +kernel
theorem dL_refuses_81 : decode cL_refuses 81 = .ok (.invokestatic 162, 3) := by decide +kernel
theorem dL_refuses_84 : decode cL_refuses 84 = .ok (.ldc2_w 21, 3) := by decide +kernel
theorem dL_refuses_87 : decode cL_refuses 87 = .ok (.lcmp, 1) := by decide +kernel
theorem dL_refuses_88 : decode cL_refuses 88 = .ok (.ifCond .ne 230, 3) := by decide +kernel
theorem dL_refuses_91 : decode cL_refuses 91 = .ok (.aload_n 0, 1) := by decide +kernel
theorem dL_refuses_92 : decode cL_refuses 92 = .ok (.bipush 60, 2) := by decide +kernel
theorem dL_refuses_94 : decode cL_refuses 94 = .ok (.iconst 0, 1) := by decide +kernel
theorem dL_refuses_95 : decode cL_refuses 95 = .ok (.iconst 1, 1) := by decide +kernel
theorem dL_refuses_96 : decode cL_refuses 96 = .ok (.iconst 1, 1) := by decide +kernel
theorem dL_refuses_97 : decode cL_refuses 97 = .ok (.invokestatic 165, 3) := by decide +kernel
theorem dL_refuses_100 : decode cL_refuses 100 = .ok (.ldc2_w 17, 3) := by decide +kernel
theorem dL_refuses_103 : decode cL_refuses 103 = .ok (.lcmp, 1) := by decide +kernel
theorem dL_refuses_104 : decode cL_refuses 104 = .ok (.ifCond .ne 214, 3) := by decide +kernel
theorem dL_refuses_107 : decode cL_refuses 107 = .ok (.aload_n 0, 1) := by decide +kernel
theorem dL_refuses_108 : decode cL_refuses 108 = .ok (.iconst 0, 1) := by decide +kernel
theorem dL_refuses_109 : decode cL_refuses 109 = .ok (.iconst 0, 1) := by decide +kernel
theorem dL_refuses_110 : decode cL_refuses 110 = .ok (.iconst 1, 1) := by decide +kernel
theorem dL_refuses_111 : decode cL_refuses 111 = .ok (.iconst 1, 1) := by decide +kernel
theorem dL_refuses_112 : decode cL_refuses 112 = .ok (.invokestatic 165, 3) := by decide +kernel
theorem dL_refuses_115 : decode cL_refuses 115 = .ok (.ldc2_w 21, 3) := by decide +kernel
theorem dL_refuses_118 : decode cL_refuses 118 = .ok (.lcmp, 1) := by decide +kernel
theorem dL_refuses_119 : decode cL_refuses 119 = .ok (.ifCond .ne 199, 3) := by decide +kernel
theorem dL_refuses_122 : decode cL_refuses 122 = .ok (.aload_n 0, 1) := by decide +kernel
theorem dL_refuses_123 : decode cL_refuses 123 = .ok (.iconst 0, 1) := by decide +kernel
theorem dL_refuses_124 : decode cL_refuses 124 = .ok (.iconst 1, 1) := by decide +kernel
theorem dL_refuses_125 : decode cL_refuses 125 = .ok (.iconst 2, 1) := by decide +kernel
theorem dL_refuses_126 : decode cL_refuses 126 = .ok (.bipush 31, 2) := by decide +kernel
theorem dL_refuses_128 : decode cL_refuses 128 = .ok (.invokestatic 165, 3) := by decide +kernel
theorem dL_refuses_131 : decode cL_refuses 131 = .ok (.ldc2_w 21, 3) := by decide +kernel
theorem dL_refuses_134 : decode cL_refuses 134 = .ok (.lcmp, 1) := by decide +kernel
theorem dL_refuses_135 : decode cL_refuses 135 = .ok (.ifCond .ne 183, 3) := by decide +kernel
theorem dL_refuses_138 : decode cL_refuses 138 = .ok (.aload_n 0, 1) := by decide +kernel
theorem dL_refuses_139 : decode cL_refuses 139 = .ok (.iconst (-1), 1) := by decide +kernel
theorem dL_refuses_140 : decode cL_refuses 140 = .ok (.iconst 1, 1) := by decide +kernel
theorem dL_refuses_141 : decode cL_refuses 141 = .ok (.invokestatic 167, 3) := by decide +kernel
theorem dL_refuses_144 : decode cL_refuses 144 = .ok (.ldc2_w 17, 3) := by decide +kernel
theorem dL_refuses_147 : decode cL_refuses 147 = .ok (.lcmp, 1) := by decide +kernel
theorem dL_refuses_148 : decode cL_refuses 148 = .ok (.ifCond .ne 170, 3) := by decide +kernel
theorem dL_refuses_151 : decode cL_refuses 151 = .ok (.aload_n 0, 1) := by decide +kernel
theorem dL_refuses_152 : decode cL_refuses 152 = .ok (.iconst 0, 1) := by decide +kernel
theorem dL_refuses_153 : decode cL_refuses 153 = .ok (.iconst 0, 1) := by decide +kernel
theorem dL_refuses_154 : decode cL_refuses 154 = .ok (.invokestatic 167, 3) := by decide +kernel
theorem dL_refuses_157 : decode cL_refuses 157 = .ok (.ldc2_w 21, 3) := by decide +kernel
theorem dL_refuses_160 : decode cL_refuses 160 = .ok (.lcmp, 1) := by decide +kernel
theorem dL_refuses_161 : decode cL_refuses 161 = .ok (.ifCond .ne 157, 3) := by decide +kernel
theorem dL_refuses_164 : decode cL_refuses 164 = .ok (.aload_n 0, 1) := by decide +kernel
theorem dL_refuses_165 : decode cL_refuses 165 = .ok (.iconst 4, 1) := by decide +kernel
theorem dL_refuses_166 : decode cL_refuses 166 = .ok (.iconst 1, 1) := by decide +kernel
theorem dL_refuses_167 : decode cL_refuses 167 = .ok (.invokestatic 169, 3) := by decide +kernel
theorem dL_refuses_170 : decode cL_refuses 170 = .ok (.ldc2_w 21, 3) := by decide +kernel
theorem dL_refuses_173 : decode cL_refuses 173 = .ok (.lcmp, 1) := by decide +kernel
theorem dL_refuses_174 : decode cL_refuses 174 = .ok (.ifCond .ne 144, 3) := by decide +kernel
theorem dL_refuses_177 : decode cL_refuses 177 = .ok (.aload_n 0, 1) := by decide +kernel
theorem dL_refuses_178 : decode cL_refuses 178 = .ok (.iconst 0, 1) := by decide +kernel
theorem dL_refuses_179 : decode cL_refuses 179 = .ok (.iconst 0, 1) := by decide +kernel
theorem dL_refuses_180 : decode cL_refuses 180 = .ok (.invokestatic 169, 3) := by decide +kernel
theorem dL_refuses_183 : decode cL_refuses 183 = .ok (.ldc2_w 21, 3) := by decide +kernel
theorem dL_refuses_186 : decode cL_refuses 186 = .ok (.lcmp, 1) := by decide +kernel
theorem dL_refuses_187 : decode cL_refuses 187 = .ok (.ifCond .ne 131, 3) := by decide +kernel
theorem dL_refuses_190 : decode cL_refuses 190 = .ok (.aload_n 0, 1) := by decide +kernel
theorem dL_refuses_191 : decode cL_refuses 191 = .ok (.iconst 0, 1) := by decide +kernel
theorem dL_refuses_192 : decode cL_refuses 192 = .ok (.bipush 60, 2) := by decide +kernel
theorem dL_refuses_194 : decode cL_refuses 194 = .ok (.iconst 2, 1) := by decide +kernel
theorem dL_refuses_195 : decode cL_refuses 195 = .ok (.invokestatic 171, 3) := by decide +kernel
theorem dL_refuses_198 : decode cL_refuses 198 = .ok (.ldc2_w 17, 3) := by decide +kernel
theorem dL_refuses_201 : decode cL_refuses 201 = .ok (.lcmp, 1) := by decide +kernel
theorem dL_refuses_202 : decode cL_refuses 202 = .ok (.ifCond .ne 116, 3) := by decide +kernel
theorem dL_refuses_205 : decode cL_refuses 205 = .ok (.aload_n 0, 1) := by decide +kernel
theorem dL_refuses_206 : decode cL_refuses 206 = .ok (.iconst 1, 1) := by decide +kernel
theorem dL_refuses_207 : decode cL_refuses 207 = .ok (.iconst 1, 1) := by decide +kernel
theorem dL_refuses_208 : decode cL_refuses 208 = .ok (.iconst 2, 1) := by decide +kernel
theorem dL_refuses_209 : decode cL_refuses 209 = .ok (.invokestatic 171, 3) := by decide +kernel
theorem dL_refuses_212 : decode cL_refuses 212 = .ok (.ldc2_w 21, 3) := by decide +kernel
theorem dL_refuses_215 : decode cL_refuses 215 = .ok (.lcmp, 1) := by decide +kernel
theorem dL_refuses_216 : decode cL_refuses 216 = .ok (.ifCond .ne 102, 3) := by decide +kernel
theorem dL_refuses_219 : decode cL_refuses 219 = .ok (.aload_n 0, 1) := by decide +kernel
theorem dL_refuses_220 : decode cL_refuses 220 = .ok (.iconst 0, 1) := by decide +kernel
theorem dL_refuses_221 : decode cL_refuses 221 = .ok (.iconst 1, 1) := by decide +kernel
theorem dL_refuses_222 : decode cL_refuses 222 = .ok (.bipush 7, 2) := by decide +kernel
theorem dL_refuses_224 : decode cL_refuses 224 = .ok (.invokestatic 171, 3) := by decide +kernel
theorem dL_refuses_227 : decode cL_refuses 227 = .ok (.ldc2_w 21, 3) := by decide +kernel
theorem dL_refuses_230 : decode cL_refuses 230 = .ok (.lcmp, 1) := by decide +kernel
theorem dL_refuses_231 : decode cL_refuses 231 = .ok (.ifCond .ne 87, 3) := by decide +kernel
theorem dL_refuses_234 : decode cL_refuses 234 = .ok (.aload_n 0, 1) := by decide +kernel
theorem dL_refuses_235 : decode cL_refuses 235 = .ok (.bipush 60, 2) := by decide +kernel
theorem dL_refuses_237 : decode cL_refuses 237 = .ok (.iconst 1, 1) := by decide +kernel
theorem dL_refuses_238 : decode cL_refuses 238 = .ok (.invokestatic 173, 3) := by decide +kernel
theorem dL_refuses_241 : decode cL_refuses 241 = .ok (.ldc2_w 17, 3) := by decide +kernel
theorem dL_refuses_244 : decode cL_refuses 244 = .ok (.lcmp, 1) := by decide +kernel
theorem dL_refuses_245 : decode cL_refuses 245 = .ok (.ifCond .ne 73, 3) := by decide +kernel
theorem dL_refuses_248 : decode cL_refuses 248 = .ok (.aload_n 0, 1) := by decide +kernel
theorem dL_refuses_249 : decode cL_refuses 249 = .ok (.iconst 0, 1) := by decide +kernel
theorem dL_refuses_250 : decode cL_refuses 250 = .ok (.iconst 0, 1) := by decide +kernel
theorem dL_refuses_251 : decode cL_refuses 251 = .ok (.invokestatic 173, 3) := by decide +kernel
theorem dL_refuses_254 : decode cL_refuses 254 = .ok (.ldc2_w 21, 3) := by decide +kernel
theorem dL_refuses_257 : decode cL_refuses 257 = .ok (.lcmp, 1) := by decide +kernel
theorem dL_refuses_258 : decode cL_refuses 258 = .ok (.ifCond .ne 60, 3) := by decide +kernel
theorem dL_refuses_261 : decode cL_refuses 261 = .ok (.aload_n 0, 1) := by decide +kernel
theorem dL_refuses_262 : decode cL_refuses 262 = .ok (.iconst 0, 1) := by decide +kernel
theorem dL_refuses_263 : decode cL_refuses 263 = .ok (.invokestatic 175, 3) := by decide +kernel
theorem dL_refuses_266 : decode cL_refuses 266 = .ok (.ldc2_w 21, 3) := by decide +kernel
theorem dL_refuses_269 : decode cL_refuses 269 = .ok (.lcmp, 1) := by decide +kernel
theorem dL_refuses_270 : decode cL_refuses 270 = .ok (.ifCond .ne 48, 3) := by decide +kernel
theorem dL_refuses_273 : decode cL_refuses 273 = .ok (.aload_n 0, 1) := by decide +kernel
theorem dL_refuses_274 : decode cL_refuses 274 = .ok (.sipush 1001, 3) := by decide +kernel
theorem dL_refuses_277 : decode cL_refuses 277 = .ok (.invokestatic 175, 3) := by decide +kernel
theorem dL_refuses_280 : decode cL_refuses 280 = .ok (.ldc2_w 21, 3) := by decide +kernel
theorem dL_refuses_283 : decode cL_refuses 283 = .ok (.lcmp, 1) := by decide +kernel
theorem dL_refuses_284 : decode cL_refuses 284 = .ok (.ifCond .ne 34, 3) := by decide +kernel
theorem dL_refuses_287 : decode cL_refuses 287 = .ok (.aload_n 0, 1) := by decide +kernel
theorem dL_refuses_288 : decode cL_refuses 288 = .ok (.iconst 0, 1) := by decide +kernel
theorem dL_refuses_289 : decode cL_refuses 289 = .ok (.bipush 10, 2) := by decide +kernel
theorem dL_refuses_291 : decode cL_refuses 291 = .ok (.invokestatic 114, 3) := by decide +kernel
theorem dL_refuses_294 : decode cL_refuses 294 = .ok (.ldc2_w 21, 3) := by decide +kernel
theorem dL_refuses_297 : decode cL_refuses 297 = .ok (.lcmp, 1) := by decide +kernel
theorem dL_refuses_298 : decode cL_refuses 298 = .ok (.ifCond .ne 20, 3) := by decide +kernel
theorem dL_refuses_301 : decode cL_refuses 301 = .ok (.aload_n 0, 1) := by decide +kernel
theorem dL_refuses_302 : decode cL_refuses 302 = .ok (.bipush 60, 2) := by decide +kernel
theorem dL_refuses_304 : decode cL_refuses 304 = .ok (.invokestatic 127, 3) := by decide +kernel
theorem dL_refuses_307 : decode cL_refuses 307 = .ok (.ldc2_w 17, 3) := by decide +kernel
theorem dL_refuses_310 : decode cL_refuses 310 = .ok (.lcmp, 1) := by decide +kernel
theorem dL_refuses_311 : decode cL_refuses 311 = .ok (.ifCond .ne 7, 3) := by decide +kernel
theorem dL_refuses_314 : decode cL_refuses 314 = .ok (.iconst 1, 1) := by decide +kernel
theorem dL_refuses_315 : decode cL_refuses 315 = .ok (.goto 4, 3) := by decide +kernel
theorem dL_refuses_318 : decode cL_refuses 318 = .ok (.iconst 0, 1) := by decide +kernel
theorem dL_refuses_319 : decode cL_refuses 319 = .ok (.istore_n 1, 1) := by decide +kernel
theorem dL_refuses_320 : decode cL_refuses 320 = .ok (.iload_n 1, 1) := by decide +kernel
theorem dL_refuses_321 : decode cL_refuses 321 = .ok (.ifCond .eq 224, 3) := by decide +kernel
theorem dL_refuses_324 : decode cL_refuses 324 = .ok (.aload_n 0, 1) := by decide +kernel
theorem dL_refuses_325 : decode cL_refuses 325 = .ok (.bipush 60, 2) := by decide +kernel
theorem dL_refuses_327 : decode cL_refuses 327 = .ok (.iconst 1, 1) := by decide +kernel
theorem dL_refuses_328 : decode cL_refuses 328 = .ok (.iconst 0, 1) := by decide +kernel
theorem dL_refuses_329 : decode cL_refuses 329 = .ok (.invokestatic 177, 3) := by decide +kernel
theorem dL_refuses_332 : decode cL_refuses 332 = .ok (.ldc2_w 17, 3) := by decide +kernel
theorem dL_refuses_335 : decode cL_refuses 335 = .ok (.lcmp, 1) := by decide +kernel
theorem dL_refuses_336 : decode cL_refuses 336 = .ok (.ifCond .ne 209, 3) := by decide +kernel
theorem dL_refuses_339 : decode cL_refuses 339 = .ok (.aload_n 0, 1) := by decide +kernel
theorem dL_refuses_340 : decode cL_refuses 340 = .ok (.iconst 0, 1) := by decide +kernel
theorem dL_refuses_341 : decode cL_refuses 341 = .ok (.bipush 7, 2) := by decide +kernel
theorem dL_refuses_343 : decode cL_refuses 343 = .ok (.iconst 0, 1) := by decide +kernel
theorem dL_refuses_344 : decode cL_refuses 344 = .ok (.invokestatic 177, 3) := by decide +kernel
theorem dL_refuses_347 : decode cL_refuses 347 = .ok (.ldc2_w 21, 3) := by decide +kernel
theorem dL_refuses_350 : decode cL_refuses 350 = .ok (.lcmp, 1) := by decide +kernel
theorem dL_refuses_351 : decode cL_refuses 351 = .ok (.ifCond .ne 194, 3) := by decide +kernel
theorem dL_refuses_354 : decode cL_refuses 354 = .ok (.aload_n 0, 1) := by decide +kernel
theorem dL_refuses_355 : decode cL_refuses 355 = .ok (.iconst 0, 1) := by decide +kernel
theorem dL_refuses_356 : decode cL_refuses 356 = .ok (.iconst 1, 1) := by decide +kernel
theorem dL_refuses_357 : decode cL_refuses 357 = .ok (.bipush 51, 2) := by decide +kernel
theorem dL_refuses_359 : decode cL_refuses 359 = .ok (.invokestatic 177, 3) := by decide +kernel
theorem dL_refuses_362 : decode cL_refuses 362 = .ok (.ldc2_w 21, 3) := by decide +kernel
theorem dL_refuses_365 : decode cL_refuses 365 = .ok (.lcmp, 1) := by decide +kernel
theorem dL_refuses_366 : decode cL_refuses 366 = .ok (.ifCond .ne 179, 3) := by decide +kernel
theorem dL_refuses_369 : decode cL_refuses 369 = .ok (.aload_n 0, 1) := by decide +kernel
theorem dL_refuses_370 : decode cL_refuses 370 = .ok (.bipush 12, 2) := by decide +kernel
theorem dL_refuses_372 : decode cL_refuses 372 = .ok (.iconst 0, 1) := by decide +kernel
theorem dL_refuses_373 : decode cL_refuses 373 = .ok (.invokestatic 136, 3) := by decide +kernel
theorem dL_refuses_376 : decode cL_refuses 376 = .ok (.ldc2_w 17, 3) := by decide +kernel
theorem dL_refuses_379 : decode cL_refuses 379 = .ok (.lcmp, 1) := by decide +kernel
theorem dL_refuses_380 : decode cL_refuses 380 = .ok (.ifCond .ne 165, 3) := by decide +kernel
theorem dL_refuses_383 : decode cL_refuses 383 = .ok (.aload_n 0, 1) := by decide +kernel
theorem dL_refuses_384 : decode cL_refuses 384 = .ok (.iconst (-1), 1) := by decide +kernel
theorem dL_refuses_385 : decode cL_refuses 385 = .ok (.iconst 1, 1) := by decide +kernel
theorem dL_refuses_386 : decode cL_refuses 386 = .ok (.invokestatic 144, 3) := by decide +kernel
theorem dL_refuses_389 : decode cL_refuses 389 = .ok (.ldc2_w 17, 3) := by decide +kernel
theorem dL_refuses_392 : decode cL_refuses 392 = .ok (.lcmp, 1) := by decide +kernel
theorem dL_refuses_393 : decode cL_refuses 393 = .ok (.ifCond .ne 152, 3) := by decide +kernel
theorem dL_refuses_396 : decode cL_refuses 396 = .ok (.aload_n 0, 1) := by decide +kernel
theorem dL_refuses_397 : decode cL_refuses 397 = .ok (.iconst 0, 1) := by decide +kernel
theorem dL_refuses_398 : decode cL_refuses 398 = .ok (.bipush 12, 2) := by decide +kernel
theorem dL_refuses_400 : decode cL_refuses 400 = .ok (.iconst 1, 1) := by decide +kernel
theorem dL_refuses_401 : decode cL_refuses 401 = .ok (.invokestatic 179, 3) := by decide +kernel
theorem dL_refuses_404 : decode cL_refuses 404 = .ok (.ldc2_w 17, 3) := by decide +kernel
theorem dL_refuses_407 : decode cL_refuses 407 = .ok (.lcmp, 1) := by decide +kernel
theorem dL_refuses_408 : decode cL_refuses 408 = .ok (.ifCond .ne 137, 3) := by decide +kernel
theorem dL_refuses_411 : decode cL_refuses 411 = .ok (.aload_n 0, 1) := by decide +kernel
theorem dL_refuses_412 : decode cL_refuses 412 = .ok (.bipush 21, 2) := by decide +kernel
theorem dL_refuses_414 : decode cL_refuses 414 = .ok (.iconst 0, 1) := by decide +kernel
theorem dL_refuses_415 : decode cL_refuses 415 = .ok (.iconst 0, 1) := by decide +kernel
theorem dL_refuses_416 : decode cL_refuses 416 = .ok (.iconst 0, 1) := by decide +kernel
theorem dL_refuses_417 : decode cL_refuses 417 = .ok (.invokestatic 181, 3) := by decide +kernel
theorem dL_refuses_420 : decode cL_refuses 420 = .ok (.ldc2_w 21, 3) := by decide +kernel
theorem dL_refuses_423 : decode cL_refuses 423 = .ok (.lcmp, 1) := by decide +kernel
theorem dL_refuses_424 : decode cL_refuses 424 = .ok (.ifCond .ne 121, 3) := by decide +kernel
theorem dL_refuses_427 : decode cL_refuses 427 = .ok (.aload_n 0, 1) := by decide +kernel
theorem dL_refuses_428 : decode cL_refuses 428 = .ok (.iconst 0, 1) := by decide +kernel
theorem dL_refuses_429 : decode cL_refuses 429 = .ok (.bipush 101, 2) := by decide +kernel
theorem dL_refuses_431 : decode cL_refuses 431 = .ok (.iconst 0, 1) := by decide +kernel
theorem dL_refuses_432 : decode cL_refuses 432 = .ok (.iconst 0, 1) := by decide +kernel
theorem dL_refuses_433 : decode cL_refuses 433 = .ok (.invokestatic 181, 3) := by decide +kernel
theorem dL_refuses_436 : decode cL_refuses 436 = .ok (.ldc2_w 21, 3) := by decide +kernel
theorem dL_refuses_439 : decode cL_refuses 439 = .ok (.lcmp, 1) := by decide +kernel
theorem dL_refuses_440 : decode cL_refuses 440 = .ok (.ifCond .ne 105, 3) := by decide +kernel
theorem dL_refuses_443 : decode cL_refuses 443 = .ok (.aload_n 0, 1) := by decide +kernel
theorem dL_refuses_444 : decode cL_refuses 444 = .ok (.iconst 0, 1) := by decide +kernel
theorem dL_refuses_445 : decode cL_refuses 445 = .ok (.iconst 0, 1) := by decide +kernel
theorem dL_refuses_446 : decode cL_refuses 446 = .ok (.sipush 1001, 3) := by decide +kernel
theorem dL_refuses_449 : decode cL_refuses 449 = .ok (.iconst 0, 1) := by decide +kernel
theorem dL_refuses_450 : decode cL_refuses 450 = .ok (.invokestatic 181, 3) := by decide +kernel
theorem dL_refuses_453 : decode cL_refuses 453 = .ok (.ldc2_w 21, 3) := by decide +kernel
theorem dL_refuses_456 : decode cL_refuses 456 = .ok (.lcmp, 1) := by decide +kernel
theorem dL_refuses_457 : decode cL_refuses 457 = .ok (.ifCond .ne 88, 3) := by decide +kernel
theorem dL_refuses_460 : decode cL_refuses 460 = .ok (.aload_n 0, 1) := by decide +kernel
theorem dL_refuses_461 : decode cL_refuses 461 = .ok (.iconst 0, 1) := by decide +kernel
theorem dL_refuses_462 : decode cL_refuses 462 = .ok (.iconst 0, 1) := by decide +kernel
theorem dL_refuses_463 : decode cL_refuses 463 = .ok (.iconst 0, 1) := by decide +kernel
theorem dL_refuses_464 : decode cL_refuses 464 = .ok (.bipush 51, 2) := by decide +kernel
theorem dL_refuses_466 : decode cL_refuses 466 = .ok (.invokestatic 181, 3) := by decide +kernel
theorem dL_refuses_469 : decode cL_refuses 469 = .ok (.ldc2_w 21, 3) := by decide +kernel
theorem dL_refuses_472 : decode cL_refuses 472 = .ok (.lcmp, 1) := by decide +kernel
theorem dL_refuses_473 : decode cL_refuses 473 = .ok (.ifCond .ne 72, 3) := by decide +kernel
theorem dL_refuses_476 : decode cL_refuses 476 = .ok (.aload_n 0, 1) := by decide +kernel
theorem dL_refuses_477 : decode cL_refuses 477 = .ok (.iconst 2, 1) := by decide +kernel
theorem dL_refuses_478 : decode cL_refuses 478 = .ok (.invokestatic 183, 3) := by decide +kernel
theorem dL_refuses_481 : decode cL_refuses 481 = .ok (.ldc2_w 21, 3) := by decide +kernel
theorem dL_refuses_484 : decode cL_refuses 484 = .ok (.lcmp, 1) := by decide +kernel
theorem dL_refuses_485 : decode cL_refuses 485 = .ok (.ifCond .ne 60, 3) := by decide +kernel
theorem dL_refuses_488 : decode cL_refuses 488 = .ok (.aload_n 0, 1) := by decide +kernel
theorem dL_refuses_489 : decode cL_refuses 489 = .ok (.bipush 9, 2) := by decide +kernel
theorem dL_refuses_491 : decode cL_refuses 491 = .ok (.invokestatic 183, 3) := by decide +kernel
theorem dL_refuses_494 : decode cL_refuses 494 = .ok (.ldc2_w 21, 3) := by decide +kernel
theorem dL_refuses_497 : decode cL_refuses 497 = .ok (.lcmp, 1) := by decide +kernel
theorem dL_refuses_498 : decode cL_refuses 498 = .ok (.ifCond .ne 47, 3) := by decide +kernel
theorem dL_refuses_501 : decode cL_refuses 501 = .ok (.aload_n 0, 1) := by decide +kernel
theorem dL_refuses_502 : decode cL_refuses 502 = .ok (.bipush 7, 2) := by decide +kernel
theorem dL_refuses_504 : decode cL_refuses 504 = .ok (.iconst 1, 1) := by decide +kernel
theorem dL_refuses_505 : decode cL_refuses 505 = .ok (.invokestatic 185, 3) := by decide +kernel
theorem dL_refuses_508 : decode cL_refuses 508 = .ok (.ldc2_w 17, 3) := by decide +kernel
theorem dL_refuses_511 : decode cL_refuses 511 = .ok (.lcmp, 1) := by decide +kernel
theorem dL_refuses_512 : decode cL_refuses 512 = .ok (.ifCond .ne 33, 3) := by decide +kernel
theorem dL_refuses_515 : decode cL_refuses 515 = .ok (.aload_n 0, 1) := by decide +kernel
theorem dL_refuses_516 : decode cL_refuses 516 = .ok (.iconst (-1), 1) := by decide +kernel
theorem dL_refuses_517 : decode cL_refuses 517 = .ok (.invokestatic 148, 3) := by decide +kernel
theorem dL_refuses_520 : decode cL_refuses 520 = .ok (.ldc2_w 17, 3) := by decide +kernel
theorem dL_refuses_523 : decode cL_refuses 523 = .ok (.lcmp, 1) := by decide +kernel
theorem dL_refuses_524 : decode cL_refuses 524 = .ok (.ifCond .ne 21, 3) := by decide +kernel
theorem dL_refuses_527 : decode cL_refuses 527 = .ok (.aload_n 0, 1) := by decide +kernel
theorem dL_refuses_528 : decode cL_refuses 528 = .ok (.bipush 8, 2) := by decide +kernel
theorem dL_refuses_530 : decode cL_refuses 530 = .ok (.iconst 0, 1) := by decide +kernel
theorem dL_refuses_531 : decode cL_refuses 531 = .ok (.invokestatic 157, 3) := by decide +kernel
theorem dL_refuses_534 : decode cL_refuses 534 = .ok (.ldc2_w 17, 3) := by decide +kernel
theorem dL_refuses_537 : decode cL_refuses 537 = .ok (.lcmp, 1) := by decide +kernel
theorem dL_refuses_538 : decode cL_refuses 538 = .ok (.ifCond .ne 7, 3) := by decide +kernel
theorem dL_refuses_541 : decode cL_refuses 541 = .ok (.iconst 1, 1) := by decide +kernel
theorem dL_refuses_542 : decode cL_refuses 542 = .ok (.goto 4, 3) := by decide +kernel
theorem dL_refuses_545 : decode cL_refuses 545 = .ok (.iconst 0, 1) := by decide +kernel
theorem dL_refuses_546 : decode cL_refuses 546 = .ok (.istore_n 1, 1) := by decide +kernel
theorem dL_refuses_547 : decode cL_refuses 547 = .ok (.iload_n 1, 1) := by decide +kernel
theorem dL_refuses_548 : decode cL_refuses 548 = .ok (.ifCond .eq 222, 3) := by decide +kernel
theorem dL_refuses_551 : decode cL_refuses 551 = .ok (.aload_n 0, 1) := by decide +kernel
theorem dL_refuses_552 : decode cL_refuses 552 = .ok (.iconst 0, 1) := by decide +kernel
theorem dL_refuses_553 : decode cL_refuses 553 = .ok (.iconst 1, 1) := by decide +kernel
theorem dL_refuses_554 : decode cL_refuses 554 = .ok (.invokestatic 188, 3) := by decide +kernel
theorem dL_refuses_557 : decode cL_refuses 557 = .ok (.ldc2_w 21, 3) := by decide +kernel
theorem dL_refuses_560 : decode cL_refuses 560 = .ok (.lcmp, 1) := by decide +kernel
theorem dL_refuses_561 : decode cL_refuses 561 = .ok (.ifCond .ne 209, 3) := by decide +kernel
theorem dL_refuses_564 : decode cL_refuses 564 = .ok (.aload_n 0, 1) := by decide +kernel
theorem dL_refuses_565 : decode cL_refuses 565 = .ok (.iconst 1, 1) := by decide +kernel
theorem dL_refuses_566 : decode cL_refuses 566 = .ok (.bipush 11, 2) := by decide +kernel
theorem dL_refuses_568 : decode cL_refuses 568 = .ok (.invokestatic 188, 3) := by decide +kernel
theorem dL_refuses_571 : decode cL_refuses 571 = .ok (.ldc2_w 21, 3) := by decide +kernel
theorem dL_refuses_574 : decode cL_refuses 574 = .ok (.lcmp, 1) := by decide +kernel
theorem dL_refuses_575 : decode cL_refuses 575 = .ok (.ifCond .ne 195, 3) := by decide +kernel
theorem dL_refuses_578 : decode cL_refuses 578 = .ok (.aload_n 0, 1) := by decide +kernel
theorem dL_refuses_579 : decode cL_refuses 579 = .ok (.iconst 5, 1) := by decide +kernel
theorem dL_refuses_580 : decode cL_refuses 580 = .ok (.iconst 0, 1) := by decide +kernel
theorem dL_refuses_581 : decode cL_refuses 581 = .ok (.iconst 0, 1) := by decide +kernel
theorem dL_refuses_582 : decode cL_refuses 582 = .ok (.iconst 1, 1) := by decide +kernel
theorem dL_refuses_583 : decode cL_refuses 583 = .ok (.invokestatic 190, 3) := by decide +kernel
theorem dL_refuses_586 : decode cL_refuses 586 = .ok (.ldc2_w 17, 3) := by decide +kernel
theorem dL_refuses_589 : decode cL_refuses 589 = .ok (.lcmp, 1) := by decide +kernel
theorem dL_refuses_590 : decode cL_refuses 590 = .ok (.ifCond .ne 180, 3) := by decide +kernel
theorem dL_refuses_593 : decode cL_refuses 593 = .ok (.aload_n 0, 1) := by decide +kernel
theorem dL_refuses_594 : decode cL_refuses 594 = .ok (.iconst 0, 1) := by decide +kernel
theorem dL_refuses_595 : decode cL_refuses 595 = .ok (.iconst 0, 1) := by decide +kernel
theorem dL_refuses_596 : decode cL_refuses 596 = .ok (.iconst 1, 1) := by decide +kernel
theorem dL_refuses_597 : decode cL_refuses 597 = .ok (.iconst 1, 1) := by decide +kernel
theorem dL_refuses_598 : decode cL_refuses 598 = .ok (.invokestatic 190, 3) := by decide +kernel
theorem dL_refuses_601 : decode cL_refuses 601 = .ok (.ldc2_w 17, 3) := by decide +kernel
theorem dL_refuses_604 : decode cL_refuses 604 = .ok (.lcmp, 1) := by decide +kernel
theorem dL_refuses_605 : decode cL_refuses 605 = .ok (.ifCond .ne 165, 3) := by decide +kernel
theorem dL_refuses_608 : decode cL_refuses 608 = .ok (.aload_n 0, 1) := by decide +kernel
theorem dL_refuses_609 : decode cL_refuses 609 = .ok (.iconst 5, 1) := by decide +kernel
theorem dL_refuses_610 : decode cL_refuses 610 = .ok (.iconst 0, 1) := by decide +kernel
theorem dL_refuses_611 : decode cL_refuses 611 = .ok (.iconst 0, 1) := by decide +kernel
theorem dL_refuses_612 : decode cL_refuses 612 = .ok (.iconst 0, 1) := by decide +kernel
theorem dL_refuses_613 : decode cL_refuses 613 = .ok (.iconst 0, 1) := by decide +kernel
theorem dL_refuses_614 : decode cL_refuses 614 = .ok (.invokestatic 193, 3) := by decide +kernel
theorem dL_refuses_617 : decode cL_refuses 617 = .ok (.ldc2_w 17, 3) := by decide +kernel
theorem dL_refuses_620 : decode cL_refuses 620 = .ok (.lcmp, 1) := by decide +kernel
theorem dL_refuses_621 : decode cL_refuses 621 = .ok (.ifCond .ne 149, 3) := by decide +kernel
theorem dL_refuses_624 : decode cL_refuses 624 = .ok (.aload_n 0, 1) := by decide +kernel
theorem dL_refuses_625 : decode cL_refuses 625 = .ok (.iconst 0, 1) := by decide +kernel
theorem dL_refuses_626 : decode cL_refuses 626 = .ok (.iconst 0, 1) := by decide +kernel
theorem dL_refuses_627 : decode cL_refuses 627 = .ok (.iconst 0, 1) := by decide +kernel
theorem dL_refuses_628 : decode cL_refuses 628 = .ok (.bipush 11, 2) := by decide +kernel
theorem dL_refuses_630 : decode cL_refuses 630 = .ok (.iconst 0, 1) := by decide +kernel
theorem dL_refuses_631 : decode cL_refuses 631 = .ok (.invokestatic 193, 3) := by decide +kernel
theorem dL_refuses_634 : decode cL_refuses 634 = .ok (.ldc2_w 21, 3) := by decide +kernel
theorem dL_refuses_637 : decode cL_refuses 637 = .ok (.lcmp, 1) := by decide +kernel
theorem dL_refuses_638 : decode cL_refuses 638 = .ok (.ifCond .ne 132, 3) := by decide +kernel
theorem dL_refuses_641 : decode cL_refuses 641 = .ok (.aload_n 0, 1) := by decide +kernel
theorem dL_refuses_642 : decode cL_refuses 642 = .ok (.iconst 0, 1) := by decide +kernel
theorem dL_refuses_643 : decode cL_refuses 643 = .ok (.iconst 1, 1) := by decide +kernel
theorem dL_refuses_644 : decode cL_refuses 644 = .ok (.iconst 0, 1) := by decide +kernel
theorem dL_refuses_645 : decode cL_refuses 645 = .ok (.iconst 0, 1) := by decide +kernel
theorem dL_refuses_646 : decode cL_refuses 646 = .ok (.iconst 0, 1) := by decide +kernel
theorem dL_refuses_647 : decode cL_refuses 647 = .ok (.invokestatic 193, 3) := by decide +kernel
theorem dL_refuses_650 : decode cL_refuses 650 = .ok (.ldc2_w 21, 3) := by decide +kernel
theorem dL_refuses_653 : decode cL_refuses 653 = .ok (.lcmp, 1) := by decide +kernel
theorem dL_refuses_654 : decode cL_refuses 654 = .ok (.ifCond .ne 116, 3) := by decide +kernel
theorem dL_refuses_657 : decode cL_refuses 657 = .ok (.aload_n 0, 1) := by decide +kernel
theorem dL_refuses_658 : decode cL_refuses 658 = .ok (.iconst (-1), 1) := by decide +kernel
theorem dL_refuses_659 : decode cL_refuses 659 = .ok (.invokestatic 196, 3) := by decide +kernel
theorem dL_refuses_662 : decode cL_refuses 662 = .ok (.ldc2_w 17, 3) := by decide +kernel
theorem dL_refuses_665 : decode cL_refuses 665 = .ok (.lcmp, 1) := by decide +kernel
theorem dL_refuses_666 : decode cL_refuses 666 = .ok (.ifCond .ne 104, 3) := by decide +kernel
theorem dL_refuses_669 : decode cL_refuses 669 = .ok (.aload_n 0, 1) := by decide +kernel
theorem dL_refuses_670 : decode cL_refuses 670 = .ok (.iconst 5, 1) := by decide +kernel
theorem dL_refuses_671 : decode cL_refuses 671 = .ok (.invokestatic 198, 3) := by decide +kernel
theorem dL_refuses_674 : decode cL_refuses 674 = .ok (.ldc2_w 17, 3) := by decide +kernel
theorem dL_refuses_677 : decode cL_refuses 677 = .ok (.lcmp, 1) := by decide +kernel
theorem dL_refuses_678 : decode cL_refuses 678 = .ok (.ifCond .ne 92, 3) := by decide +kernel
theorem dL_refuses_681 : decode cL_refuses 681 = .ok (.aload_n 0, 1) := by decide +kernel
theorem dL_refuses_682 : decode cL_refuses 682 = .ok (.iconst 5, 1) := by decide +kernel
theorem dL_refuses_683 : decode cL_refuses 683 = .ok (.iconst 0, 1) := by decide +kernel
theorem dL_refuses_684 : decode cL_refuses 684 = .ok (.invokestatic 200, 3) := by decide +kernel
theorem dL_refuses_687 : decode cL_refuses 687 = .ok (.ldc2_w 17, 3) := by decide +kernel
theorem dL_refuses_690 : decode cL_refuses 690 = .ok (.lcmp, 1) := by decide +kernel
theorem dL_refuses_691 : decode cL_refuses 691 = .ok (.ifCond .ne 79, 3) := by decide +kernel
theorem dL_refuses_694 : decode cL_refuses 694 = .ok (.aload_n 0, 1) := by decide +kernel
theorem dL_refuses_695 : decode cL_refuses 695 = .ok (.iconst 0, 1) := by decide +kernel
theorem dL_refuses_696 : decode cL_refuses 696 = .ok (.sipush 201, 3) := by decide +kernel
theorem dL_refuses_699 : decode cL_refuses 699 = .ok (.invokestatic 200, 3) := by decide +kernel
theorem dL_refuses_702 : decode cL_refuses 702 = .ok (.ldc2_w 21, 3) := by decide +kernel
theorem dL_refuses_705 : decode cL_refuses 705 = .ok (.lcmp, 1) := by decide +kernel
theorem dL_refuses_706 : decode cL_refuses 706 = .ok (.ifCond .ne 64, 3) := by decide +kernel
theorem dL_refuses_709 : decode cL_refuses 709 = .ok (.aload_n 0, 1) := by decide +kernel
theorem dL_refuses_710 : decode cL_refuses 710 = .ok (.iconst 0, 1) := by decide +kernel
theorem dL_refuses_711 : decode cL_refuses 711 = .ok (.iconst 1, 1) := by decide +kernel
theorem dL_refuses_712 : decode cL_refuses 712 = .ok (.iconst 0, 1) := by decide +kernel
theorem dL_refuses_713 : decode cL_refuses 713 = .ok (.invokestatic 202, 3) := by decide +kernel
theorem dL_refuses_716 : decode cL_refuses 716 = .ok (.ldc2_w 21, 3) := by decide +kernel
theorem dL_refuses_719 : decode cL_refuses 719 = .ok (.lcmp, 1) := by decide +kernel
theorem dL_refuses_720 : decode cL_refuses 720 = .ok (.ifCond .ne 50, 3) := by decide +kernel
theorem dL_refuses_723 : decode cL_refuses 723 = .ok (.aload_n 0, 1) := by decide +kernel
theorem dL_refuses_724 : decode cL_refuses 724 = .ok (.iconst 1, 1) := by decide +kernel
theorem dL_refuses_725 : decode cL_refuses 725 = .ok (.iconst 1, 1) := by decide +kernel
theorem dL_refuses_726 : decode cL_refuses 726 = .ok (.iconst 1, 1) := by decide +kernel
theorem dL_refuses_727 : decode cL_refuses 727 = .ok (.invokestatic 202, 3) := by decide +kernel
theorem dL_refuses_730 : decode cL_refuses 730 = .ok (.ldc2_w 21, 3) := by decide +kernel
theorem dL_refuses_733 : decode cL_refuses 733 = .ok (.lcmp, 1) := by decide +kernel
theorem dL_refuses_734 : decode cL_refuses 734 = .ok (.ifCond .ne 36, 3) := by decide +kernel
theorem dL_refuses_737 : decode cL_refuses 737 = .ok (.aload_n 0, 1) := by decide +kernel
theorem dL_refuses_738 : decode cL_refuses 738 = .ok (.iconst 1, 1) := by decide +kernel
theorem dL_refuses_739 : decode cL_refuses 739 = .ok (.iconst 1, 1) := by decide +kernel
theorem dL_refuses_740 : decode cL_refuses 740 = .ok (.bipush 100, 2) := by decide +kernel
theorem dL_refuses_742 : decode cL_refuses 742 = .ok (.invokestatic 204, 3) := by decide +kernel
theorem dL_refuses_745 : decode cL_refuses 745 = .ok (.ldc2_w 21, 3) := by decide +kernel
theorem dL_refuses_748 : decode cL_refuses 748 = .ok (.lcmp, 1) := by decide +kernel
theorem dL_refuses_749 : decode cL_refuses 749 = .ok (.ifCond .ne 21, 3) := by decide +kernel
theorem dL_refuses_752 : decode cL_refuses 752 = .ok (.aload_n 0, 1) := by decide +kernel
theorem dL_refuses_753 : decode cL_refuses 753 = .ok (.iconst 0, 1) := by decide +kernel
theorem dL_refuses_754 : decode cL_refuses 754 = .ok (.iconst 1, 1) := by decide +kernel
theorem dL_refuses_755 : decode cL_refuses 755 = .ok (.iconst 1, 1) := by decide +kernel
theorem dL_refuses_756 : decode cL_refuses 756 = .ok (.invokestatic 204, 3) := by decide +kernel
theorem dL_refuses_759 : decode cL_refuses 759 = .ok (.ldc2_w 21, 3) := by decide +kernel
theorem dL_refuses_762 : decode cL_refuses 762 = .ok (.lcmp, 1) := by decide +kernel
theorem dL_refuses_763 : decode cL_refuses 763 = .ok (.ifCond .ne 7, 3) := by decide +kernel
theorem dL_refuses_766 : decode cL_refuses 766 = .ok (.iconst 1, 1) := by decide +kernel
theorem dL_refuses_767 : decode cL_refuses 767 = .ok (.goto 4, 3) := by decide +kernel
theorem dL_refuses_770 : decode cL_refuses 770 = .ok (.iconst 0, 1) := by decide +kernel
theorem dL_refuses_771 : decode cL_refuses 771 = .ok (.ireturn, 1) := by decide +kernel
theorem dL_netHolds_0 : decode cL_netHolds 0 = .ok (.aload_n 0, 1) := by decide +kernel
theorem dL_netHolds_1 : decode cL_netHolds 1 = .ok (.iload_n 1, 1) := by decide +kernel
theorem dL_netHolds_2 : decode cL_netHolds 2 = .ok (.invokestatic 196, 3) := by decide +kernel
theorem dL_netHolds_5 : decode cL_netHolds 5 = .ok (.lstore 4, 2) := by decide +kernel
theorem dL_netHolds_7 : decode cL_netHolds 7 = .ok (.lload 4, 2) := by decide +kernel
theorem dL_netHolds_9 : decode cL_netHolds 9 = .ok (.lconst 0, 1) := by decide +kernel
theorem dL_netHolds_10 : decode cL_netHolds 10 = .ok (.lcmp, 1) := by decide +kernel
theorem dL_netHolds_11 : decode cL_netHolds 11 = .ok (.ifCond .lt 18, 3) := by decide +kernel
theorem dL_netHolds_14 : decode cL_netHolds 14 = .ok (.aload_n 0, 1) := by decide +kernel
theorem dL_netHolds_15 : decode cL_netHolds 15 = .ok (.iload_n 1, 1) := by decide +kernel
theorem dL_netHolds_16 : decode cL_netHolds 16 = .ok (.invokestatic 198, 3) := by decide +kernel
theorem dL_netHolds_19 : decode cL_netHolds 19 = .ok (.lload 4, 2) := by decide +kernel
theorem dL_netHolds_21 : decode cL_netHolds 21 = .ok (.lcmp, 1) := by decide +kernel
theorem dL_netHolds_22 : decode cL_netHolds 22 = .ok (.ifCond .ne 7, 3) := by decide +kernel
theorem dL_netHolds_25 : decode cL_netHolds 25 = .ok (.iconst 1, 1) := by decide +kernel
theorem dL_netHolds_26 : decode cL_netHolds 26 = .ok (.goto 4, 3) := by decide +kernel
theorem dL_netHolds_29 : decode cL_netHolds 29 = .ok (.iconst 0, 1) := by decide +kernel
theorem dL_netHolds_30 : decode cL_netHolds 30 = .ok (.istore 6, 2) := by decide +kernel
theorem dL_netHolds_32 : decode cL_netHolds 32 = .ok (.iload_n 2, 1) := by decide +kernel
theorem dL_netHolds_33 : decode cL_netHolds 33 = .ok (.iconst 3, 1) := by decide +kernel
theorem dL_netHolds_34 : decode cL_netHolds 34 = .ok (.irem, 1) := by decide +kernel
theorem dL_netHolds_35 : decode cL_netHolds 35 = .ok (.ifCond .ne 95, 3) := by decide +kernel
theorem dL_netHolds_38 : decode cL_netHolds 38 = .ok (.lload 4, 2) := by decide +kernel
theorem dL_netHolds_40 : decode cL_netHolds 40 = .ok (.lconst 0, 1) := by decide +kernel
theorem dL_netHolds_41 : decode cL_netHolds 41 = .ok (.lcmp, 1) := by decide +kernel
theorem dL_netHolds_42 : decode cL_netHolds 42 = .ok (.ifCond .ne 7, 3) := by decide +kernel
theorem dL_netHolds_45 : decode cL_netHolds 45 = .ok (.lconst 0, 1) := by decide +kernel
theorem dL_netHolds_46 : decode cL_netHolds 46 = .ok (.goto 13, 3) := by decide +kernel
theorem dL_netHolds_49 : decode cL_netHolds 49 = .ok (.aload_n 0, 1) := by decide +kernel
theorem dL_netHolds_50 : decode cL_netHolds 50 = .ok (.iload_n 1, 1) := by decide +kernel
theorem dL_netHolds_51 : decode cL_netHolds 51 = .ok (.lload 4, 2) := by decide +kernel
theorem dL_netHolds_53 : decode cL_netHolds 53 = .ok (.l2i, 1) := by decide +kernel
theorem dL_netHolds_54 : decode cL_netHolds 54 = .ok (.iconst 1, 1) := by decide +kernel
theorem dL_netHolds_55 : decode cL_netHolds 55 = .ok (.isub, 1) := by decide +kernel
theorem dL_netHolds_56 : decode cL_netHolds 56 = .ok (.invokestatic 200, 3) := by decide +kernel
theorem dL_netHolds_59 : decode cL_netHolds 59 = .ok (.lstore 7, 2) := by decide +kernel
theorem dL_netHolds_61 : decode cL_netHolds 61 = .ok (.lload 7, 2) := by decide +kernel
theorem dL_netHolds_63 : decode cL_netHolds 63 = .ok (.lconst 0, 1) := by decide +kernel
theorem dL_netHolds_64 : decode cL_netHolds 64 = .ok (.lcmp, 1) := by decide +kernel
theorem dL_netHolds_65 : decode cL_netHolds 65 = .ok (.ifCond .ne 18, 3) := by decide +kernel
theorem dL_netHolds_68 : decode cL_netHolds 68 = .ok (.aload_n 0, 1) := by decide +kernel
theorem dL_netHolds_69 : decode cL_netHolds 69 = .ok (.iload_n 1, 1) := by decide +kernel
theorem dL_netHolds_70 : decode cL_netHolds 70 = .ok (.lload 4, 2) := by decide +kernel
theorem dL_netHolds_72 : decode cL_netHolds 72 = .ok (.l2i, 1) := by decide +kernel
theorem dL_netHolds_73 : decode cL_netHolds 73 = .ok (.iload_n 3, 1) := by decide +kernel
theorem dL_netHolds_74 : decode cL_netHolds 74 = .ok (.iconst 2, 1) := by decide +kernel
theorem dL_netHolds_75 : decode cL_netHolds 75 = .ok (.irem, 1) := by decide +kernel
theorem dL_netHolds_76 : decode cL_netHolds 76 = .ok (.iadd, 1) := by decide +kernel
theorem dL_netHolds_77 : decode cL_netHolds 77 = .ok (.invokestatic 200, 3) := by decide +kernel
theorem dL_netHolds_80 : decode cL_netHolds 80 = .ok (.goto 6, 3) := by decide +kernel
theorem dL_netHolds_83 : decode cL_netHolds 83 = .ok (.ldc2_w 206, 3) := by decide +kernel
theorem dL_netHolds_86 : decode cL_netHolds 86 = .ok (.lstore 9, 2) := by decide +kernel
theorem dL_netHolds_88 : decode cL_netHolds 88 = .ok (.iload 6, 2) := by decide +kernel
theorem dL_netHolds_90 : decode cL_netHolds 90 = .ok (.ifCond .eq 38, 3) := by decide +kernel
theorem dL_netHolds_93 : decode cL_netHolds 93 = .ok (.lload 9, 2) := by decide +kernel
theorem dL_netHolds_95 : decode cL_netHolds 95 = .ok (.lload 4, 2) := by decide +kernel
theorem dL_netHolds_97 : decode cL_netHolds 97 = .ok (.lcmp, 1) := by decide +kernel
theorem dL_netHolds_98 : decode cL_netHolds 98 = .ok (.ifCond .lt 30, 3) := by decide +kernel
theorem dL_netHolds_101 : decode cL_netHolds 101 = .ok (.aload_n 0, 1) := by decide +kernel
theorem dL_netHolds_102 : decode cL_netHolds 102 = .ok (.iload_n 1, 1) := by decide +kernel
theorem dL_netHolds_103 : decode cL_netHolds 103 = .ok (.invokestatic 196, 3) := by decide +kernel
theorem dL_netHolds_106 : decode cL_netHolds 106 = .ok (.lconst 0, 1) := by decide +kernel
theorem dL_netHolds_107 : decode cL_netHolds 107 = .ok (.lcmp, 1) := by decide +kernel
theorem dL_netHolds_108 : decode cL_netHolds 108 = .ok (.ifCond .ne 20, 3) := by decide +kernel
theorem dL_netHolds_111 : decode cL_netHolds 111 = .ok (.aload_n 0, 1) := by decide +kernel
theorem dL_netHolds_112 : decode cL_netHolds 112 = .ok (.iload_n 1, 1) := by decide +kernel
theorem dL_netHolds_113 : decode cL_netHolds 113 = .ok (.sipush 200, 3) := by decide +kernel
theorem dL_netHolds_116 : decode cL_netHolds 116 = .ok (.invokestatic 200, 3) := by decide +kernel
theorem dL_netHolds_119 : decode cL_netHolds 119 = .ok (.lconst 0, 1) := by decide +kernel
theorem dL_netHolds_120 : decode cL_netHolds 120 = .ok (.lcmp, 1) := by decide +kernel
theorem dL_netHolds_121 : decode cL_netHolds 121 = .ok (.ifCond .ne 7, 3) := by decide +kernel
theorem dL_netHolds_124 : decode cL_netHolds 124 = .ok (.iconst 1, 1) := by decide +kernel
theorem dL_netHolds_125 : decode cL_netHolds 125 = .ok (.goto 4, 3) := by decide +kernel
theorem dL_netHolds_128 : decode cL_netHolds 128 = .ok (.iconst 0, 1) := by decide +kernel
theorem dL_netHolds_129 : decode cL_netHolds 129 = .ok (.ireturn, 1) := by decide +kernel
theorem dL_netHolds_130 : decode cL_netHolds 130 = .ok (.aload_n 0, 1) := by decide +kernel
theorem dL_netHolds_131 : decode cL_netHolds 131 = .ok (.iload_n 1, 1) := by decide +kernel
theorem dL_netHolds_132 : decode cL_netHolds 132 = .ok (.iload_n 3, 1) := by decide +kernel
theorem dL_netHolds_133 : decode cL_netHolds 133 = .ok (.bipush 10, 2) := by decide +kernel
theorem dL_netHolds_135 : decode cL_netHolds 135 = .ok (.irem, 1) := by decide +kernel
theorem dL_netHolds_136 : decode cL_netHolds 136 = .ok (.iload_n 3, 1) := by decide +kernel
theorem dL_netHolds_137 : decode cL_netHolds 137 = .ok (.bipush 16, 2) := by decide +kernel
theorem dL_netHolds_139 : decode cL_netHolds 139 = .ok (.idiv, 1) := by decide +kernel
theorem dL_netHolds_140 : decode cL_netHolds 140 = .ok (.bipush 11, 2) := by decide +kernel
theorem dL_netHolds_142 : decode cL_netHolds 142 = .ok (.irem, 1) := by decide +kernel
theorem dL_netHolds_143 : decode cL_netHolds 143 = .ok (.iload_n 2, 1) := by decide +kernel
theorem dL_netHolds_144 : decode cL_netHolds 144 = .ok (.iconst 4, 1) := by decide +kernel
theorem dL_netHolds_145 : decode cL_netHolds 145 = .ok (.idiv, 1) := by decide +kernel
theorem dL_netHolds_146 : decode cL_netHolds 146 = .ok (.iconst 2, 1) := by decide +kernel
theorem dL_netHolds_147 : decode cL_netHolds 147 = .ok (.irem, 1) := by decide +kernel
theorem dL_netHolds_148 : decode cL_netHolds 148 = .ok (.ifCond .ne 7, 3) := by decide +kernel
theorem dL_netHolds_151 : decode cL_netHolds 151 = .ok (.iconst 1, 1) := by decide +kernel
theorem dL_netHolds_152 : decode cL_netHolds 152 = .ok (.goto 4, 3) := by decide +kernel
theorem dL_netHolds_155 : decode cL_netHolds 155 = .ok (.iconst 0, 1) := by decide +kernel
theorem dL_netHolds_156 : decode cL_netHolds 156 = .ok (.invokestatic 190, 3) := by decide +kernel
theorem dL_netHolds_159 : decode cL_netHolds 159 = .ok (.lstore 7, 2) := by decide +kernel
theorem dL_netHolds_161 : decode cL_netHolds 161 = .ok (.iload 6, 2) := by decide +kernel
theorem dL_netHolds_163 : decode cL_netHolds 163 = .ok (.ifCond .eq 82, 3) := by decide +kernel
theorem dL_netHolds_166 : decode cL_netHolds 166 = .ok (.lload 7, 2) := by decide +kernel
theorem dL_netHolds_168 : decode cL_netHolds 168 = .ok (.ldc2_w 17, 3) := by decide +kernel
theorem dL_netHolds_171 : decode cL_netHolds 171 = .ok (.lcmp, 1) := by decide +kernel
theorem dL_netHolds_172 : decode cL_netHolds 172 = .ok (.ifCond .eq 12, 3) := by decide +kernel
theorem dL_netHolds_175 : decode cL_netHolds 175 = .ok (.lload 7, 2) := by decide +kernel
theorem dL_netHolds_177 : decode cL_netHolds 177 = .ok (.ldc2_w 29, 3) := by decide +kernel
theorem dL_netHolds_180 : decode cL_netHolds 180 = .ok (.lcmp, 1) := by decide +kernel
theorem dL_netHolds_181 : decode cL_netHolds 181 = .ok (.ifCond .ne 17, 3) := by decide +kernel
theorem dL_netHolds_184 : decode cL_netHolds 184 = .ok (.aload_n 0, 1) := by decide +kernel
theorem dL_netHolds_185 : decode cL_netHolds 185 = .ok (.iload_n 1, 1) := by decide +kernel
theorem dL_netHolds_186 : decode cL_netHolds 186 = .ok (.invokestatic 196, 3) := by decide +kernel
theorem dL_netHolds_189 : decode cL_netHolds 189 = .ok (.lload 4, 2) := by decide +kernel
theorem dL_netHolds_191 : decode cL_netHolds 191 = .ok (.lcmp, 1) := by decide +kernel
theorem dL_netHolds_192 : decode cL_netHolds 192 = .ok (.ifCond .ne 53, 3) := by decide +kernel
theorem dL_netHolds_195 : decode cL_netHolds 195 = .ok (.goto 46, 3) := by decide +kernel
theorem dL_netHolds_198 : decode cL_netHolds 198 = .ok (.lload 7, 2) := by decide +kernel
theorem dL_netHolds_200 : decode cL_netHolds 200 = .ok (.lconst 1, 1) := by decide +kernel
theorem dL_netHolds_201 : decode cL_netHolds 201 = .ok (.lcmp, 1) := by decide +kernel
theorem dL_netHolds_202 : decode cL_netHolds 202 = .ok (.ifCond .lt 43, 3) := by decide +kernel
theorem dL_netHolds_205 : decode cL_netHolds 205 = .ok (.aload_n 0, 1) := by decide +kernel
theorem dL_netHolds_206 : decode cL_netHolds 206 = .ok (.iload_n 1, 1) := by decide +kernel
theorem dL_netHolds_207 : decode cL_netHolds 207 = .ok (.invokestatic 196, 3) := by decide +kernel
theorem dL_netHolds_210 : decode cL_netHolds 210 = .ok (.lconst 1, 1) := by decide +kernel
theorem dL_netHolds_211 : decode cL_netHolds 211 = .ok (.lcmp, 1) := by decide +kernel
theorem dL_netHolds_212 : decode cL_netHolds 212 = .ok (.ifCond .lt 33, 3) := by decide +kernel
theorem dL_netHolds_215 : decode cL_netHolds 215 = .ok (.aload_n 0, 1) := by decide +kernel
theorem dL_netHolds_216 : decode cL_netHolds 216 = .ok (.iload_n 1, 1) := by decide +kernel
theorem dL_netHolds_217 : decode cL_netHolds 217 = .ok (.invokestatic 196, 3) := by decide +kernel
theorem dL_netHolds_220 : decode cL_netHolds 220 = .ok (.lload 4, 2) := by decide +kernel
theorem dL_netHolds_222 : decode cL_netHolds 222 = .ok (.lsub, 1) := by decide +kernel
theorem dL_netHolds_223 : decode cL_netHolds 223 = .ok (.lconst 1, 1) := by decide +kernel
theorem dL_netHolds_224 : decode cL_netHolds 224 = .ok (.lcmp, 1) := by decide +kernel
theorem dL_netHolds_225 : decode cL_netHolds 225 = .ok (.ifCond .gt 20, 3) := by decide +kernel
theorem dL_netHolds_228 : decode cL_netHolds 228 = .ok (.lload 4, 2) := by decide +kernel
theorem dL_netHolds_230 : decode cL_netHolds 230 = .ok (.aload_n 0, 1) := by decide +kernel
theorem dL_netHolds_231 : decode cL_netHolds 231 = .ok (.iload_n 1, 1) := by decide +kernel
theorem dL_netHolds_232 : decode cL_netHolds 232 = .ok (.invokestatic 196, 3) := by decide +kernel
theorem dL_netHolds_235 : decode cL_netHolds 235 = .ok (.lsub, 1) := by decide +kernel
theorem dL_netHolds_236 : decode cL_netHolds 236 = .ok (.lconst 1, 1) := by decide +kernel
theorem dL_netHolds_237 : decode cL_netHolds 237 = .ok (.lcmp, 1) := by decide +kernel
theorem dL_netHolds_238 : decode cL_netHolds 238 = .ok (.ifCond .gt 7, 3) := by decide +kernel
theorem dL_netHolds_241 : decode cL_netHolds 241 = .ok (.iconst 1, 1) := by decide +kernel
theorem dL_netHolds_242 : decode cL_netHolds 242 = .ok (.goto 4, 3) := by decide +kernel
theorem dL_netHolds_245 : decode cL_netHolds 245 = .ok (.iconst 0, 1) := by decide +kernel
theorem dL_netHolds_246 : decode cL_netHolds 246 = .ok (.ireturn, 1) := by decide +kernel
