theorem dX0_init_0 : decode cX0_init 0 = .ok (.aload_n 0, 1) := by decide +kernel
theorem dX0_init_1 : decode cX0_init 1 = .ok (.invokespecial 3, 3) := by decide +kernel
theorem dX0_init_4 : decode cX0_init 4 = .ok (.aload_n 0, 1) := by decide +kernel
theorem dX0_init_5 : decode cX0_init 5 = .ok (.bipush 27, 2) := by decide +kernel
theorem dX0_init_7 : decode cX0_init 7 = .ok (.newarray .int, 2) := by decide +kernel
theorem dX0_init_9 : decode cX0_init 9 = .ok (.putfield 9, 3) := by decide +kernel
theorem dX0_init_12 : decode cX0_init 12 = .ok (.aload_n 0, 1) := by decide +kernel
theorem dX0_init_13 : decode cX0_init 13 = .ok (.iconst 2, 1) := by decide +kernel
theorem dX0_init_14 : decode cX0_init 14 = .ok (.iconst 5, 1) := by decide +kernel
theorem dX0_init_15 : decode cX0_init 15 = .ok (.invokevirtual 15, 3) := by decide +kernel
theorem dX0_init_18 : decode cX0_init 18 = .ok (.return_, 1) := by decide +kernel
theorem dX0_lay_0 : decode cX0_lay 0 = .ok (.aload_n 0, 1) := by decide +kernel
theorem dX0_lay_1 : decode cX0_lay 1 = .ok (.iload_n 1, 1) := by decide +kernel
theorem dX0_lay_2 : decode cX0_lay 2 = .ok (.putfield 19, 3) := by decide +kernel
theorem dX0_lay_5 : decode cX0_lay 5 = .ok (.aload_n 0, 1) := by decide +kernel
theorem dX0_lay_6 : decode cX0_lay 6 = .ok (.iload_n 2, 1) := by decide +kernel
theorem dX0_lay_7 : decode cX0_lay 7 = .ok (.putfield 23, 3) := by decide +kernel
theorem dX0_lay_10 : decode cX0_lay 10 = .ok (.aload_n 0, 1) := by decide +kernel
theorem dX0_lay_11 : decode cX0_lay 11 = .ok (.getfield 9, 3) := by decide +kernel
theorem dX0_lay_14 : decode cX0_lay 14 = .ok (.iconst 1, 1) := by decide +kernel
theorem dX0_lay_15 : decode cX0_lay 15 = .ok (.invokestatic 26, 3) := by decide +kernel
theorem dX0_lay_18 : decode cX0_lay 18 = .ok (.return_, 1) := by decide +kernel
theorem dX0_isOf_0 : decode cX0_isOf 0 = .ok (.aload_n 0, 1) := by decide +kernel
theorem dX0_isOf_1 : decode cX0_isOf 1 = .ok (.getfield 19, 3) := by decide +kernel
theorem dX0_isOf_4 : decode cX0_isOf 4 = .ok (.iload_n 1, 1) := by decide +kernel
theorem dX0_isOf_5 : decode cX0_isOf 5 = .ok (.if_icmp .ne 15, 3) := by decide +kernel
theorem dX0_isOf_8 : decode cX0_isOf 8 = .ok (.aload_n 0, 1) := by decide +kernel
theorem dX0_isOf_9 : decode cX0_isOf 9 = .ok (.getfield 23, 3) := by decide +kernel
theorem dX0_isOf_12 : decode cX0_isOf 12 = .ok (.iload_n 2, 1) := by decide +kernel
theorem dX0_isOf_13 : decode cX0_isOf 13 = .ok (.if_icmp .ne 7, 3) := by decide +kernel
theorem dX0_isOf_16 : decode cX0_isOf 16 = .ok (.iconst 1, 1) := by decide +kernel
theorem dX0_isOf_17 : decode cX0_isOf 17 = .ok (.goto 4, 3) := by decide +kernel
theorem dX0_isOf_20 : decode cX0_isOf 20 = .ok (.iconst 0, 1) := by decide +kernel
theorem dX0_isOf_21 : decode cX0_isOf 21 = .ok (.ireturn, 1) := by decide +kernel
theorem dX0_has_0 : decode cX0_has 0 = .ok (.iload_n 1, 1) := by decide +kernel
theorem dX0_has_1 : decode cX0_has 1 = .ok (.ifCond .lt 28, 3) := by decide +kernel
theorem dX0_has_4 : decode cX0_has 4 = .ok (.iload_n 1, 1) := by decide +kernel
theorem dX0_has_5 : decode cX0_has 5 = .ok (.aload_n 0, 1) := by decide +kernel
theorem dX0_has_6 : decode cX0_has 6 = .ok (.getfield 19, 3) := by decide +kernel
theorem dX0_has_9 : decode cX0_has 9 = .ok (.if_icmp .ge 20, 3) := by decide +kernel
theorem dX0_has_12 : decode cX0_has 12 = .ok (.iload_n 2, 1) := by decide +kernel
theorem dX0_has_13 : decode cX0_has 13 = .ok (.iconst 1, 1) := by decide +kernel
theorem dX0_has_14 : decode cX0_has 14 = .ok (.if_icmp .lt 15, 3) := by decide +kernel
theorem dX0_has_17 : decode cX0_has 17 = .ok (.iload_n 2, 1) := by decide +kernel
theorem dX0_has_18 : decode cX0_has 18 = .ok (.aload_n 0, 1) := by decide +kernel
theorem dX0_has_19 : decode cX0_has 19 = .ok (.getfield 23, 3) := by decide +kernel
theorem dX0_has_22 : decode cX0_has 22 = .ok (.if_icmp .gt 7, 3) := by decide +kernel
theorem dX0_has_25 : decode cX0_has 25 = .ok (.iconst 1, 1) := by decide +kernel
theorem dX0_has_26 : decode cX0_has 26 = .ok (.goto 4, 3) := by decide +kernel
theorem dX0_has_29 : decode cX0_has 29 = .ok (.iconst 0, 1) := by decide +kernel
theorem dX0_has_30 : decode cX0_has 30 = .ok (.ireturn, 1) := by decide +kernel
theorem dX0_shareAt_0 : decode cX0_shareAt 0 = .ok (.aload_n 0, 1) := by decide +kernel
theorem dX0_shareAt_1 : decode cX0_shareAt 1 = .ok (.iload_n 1, 1) := by decide +kernel
theorem dX0_shareAt_2 : decode cX0_shareAt 2 = .ok (.iload_n 2, 1) := by decide +kernel
theorem dX0_shareAt_3 : decode cX0_shareAt 3 = .ok (.invokevirtual 30, 3) := by decide +kernel
theorem dX0_shareAt_6 : decode cX0_shareAt 6 = .ok (.ifCond .eq 19, 3) := by decide +kernel
theorem dX0_shareAt_9 : decode cX0_shareAt 9 = .ok (.aload_n 0, 1) := by decide +kernel
theorem dX0_shareAt_10 : decode cX0_shareAt 10 = .ok (.getfield 9, 3) := by decide +kernel
theorem dX0_shareAt_13 : decode cX0_shareAt 13 = .ok (.iload_n 1, 1) := by decide +kernel
theorem dX0_shareAt_14 : decode cX0_shareAt 14 = .ok (.bipush 9, 2) := by decide +kernel
theorem dX0_shareAt_16 : decode cX0_shareAt 16 = .ok (.imul, 1) := by decide +kernel
theorem dX0_shareAt_17 : decode cX0_shareAt 17 = .ok (.iload_n 2, 1) := by decide +kernel
theorem dX0_shareAt_18 : decode cX0_shareAt 18 = .ok (.iadd, 1) := by decide +kernel
theorem dX0_shareAt_19 : decode cX0_shareAt 19 = .ok (.invokestatic 34, 3) := by decide +kernel
theorem dX0_shareAt_22 : decode cX0_shareAt 22 = .ok (.goto 4, 3) := by decide +kernel
theorem dX0_shareAt_25 : decode cX0_shareAt 25 = .ok (.iconst 0, 1) := by decide +kernel
theorem dX0_shareAt_26 : decode cX0_shareAt 26 = .ok (.ireturn, 1) := by decide +kernel
theorem dX0_setShare_0 : decode cX0_setShare 0 = .ok (.aload_n 0, 1) := by decide +kernel
theorem dX0_setShare_1 : decode cX0_setShare 1 = .ok (.iload_n 1, 1) := by decide +kernel
theorem dX0_setShare_2 : decode cX0_setShare 2 = .ok (.iload_n 2, 1) := by decide +kernel
theorem dX0_setShare_3 : decode cX0_setShare 3 = .ok (.invokevirtual 30, 3) := by decide +kernel
theorem dX0_setShare_6 : decode cX0_setShare 6 = .ok (.ifCond .eq 17, 3) := by decide +kernel
theorem dX0_setShare_9 : decode cX0_setShare 9 = .ok (.aload_n 0, 1) := by decide +kernel
theorem dX0_setShare_10 : decode cX0_setShare 10 = .ok (.getfield 9, 3) := by decide +kernel
theorem dX0_setShare_13 : decode cX0_setShare 13 = .ok (.iload_n 1, 1) := by decide +kernel
theorem dX0_setShare_14 : decode cX0_setShare 14 = .ok (.bipush 9, 2) := by decide +kernel
theorem dX0_setShare_16 : decode cX0_setShare 16 = .ok (.imul, 1) := by decide +kernel
theorem dX0_setShare_17 : decode cX0_setShare 17 = .ok (.iload_n 2, 1) := by decide +kernel
theorem dX0_setShare_18 : decode cX0_setShare 18 = .ok (.iadd, 1) := by decide +kernel
theorem dX0_setShare_19 : decode cX0_setShare 19 = .ok (.iload_n 3, 1) := by decide +kernel
theorem dX0_setShare_20 : decode cX0_setShare 20 = .ok (.invokestatic 38, 3) := by decide +kernel
theorem dX0_setShare_23 : decode cX0_setShare 23 = .ok (.return_, 1) := by decide +kernel
theorem dX0_allShares_0 : decode cX0_allShares 0 = .ok (.iconst 0, 1) := by decide +kernel
theorem dX0_allShares_1 : decode cX0_allShares 1 = .ok (.istore_n 1, 1) := by decide +kernel
theorem dX0_allShares_2 : decode cX0_allShares 2 = .ok (.iconst 0, 1) := by decide +kernel
theorem dX0_allShares_3 : decode cX0_allShares 3 = .ok (.istore_n 2, 1) := by decide +kernel
theorem dX0_allShares_4 : decode cX0_allShares 4 = .ok (.iload_n 2, 1) := by decide +kernel
theorem dX0_allShares_5 : decode cX0_allShares 5 = .ok (.aload_n 0, 1) := by decide +kernel
theorem dX0_allShares_6 : decode cX0_allShares 6 = .ok (.getfield 19, 3) := by decide +kernel
theorem dX0_allShares_9 : decode cX0_allShares 9 = .ok (.if_icmp .ge 34, 3) := by decide +kernel
theorem dX0_allShares_12 : decode cX0_allShares 12 = .ok (.iconst 1, 1) := by decide +kernel
theorem dX0_allShares_13 : decode cX0_allShares 13 = .ok (.istore_n 3, 1) := by decide +kernel
theorem dX0_allShares_14 : decode cX0_allShares 14 = .ok (.iload_n 3, 1) := by decide +kernel
theorem dX0_allShares_15 : decode cX0_allShares 15 = .ok (.aload_n 0, 1) := by decide +kernel
theorem dX0_allShares_16 : decode cX0_allShares 16 = .ok (.getfield 23, 3) := by decide +kernel
theorem dX0_allShares_19 : decode cX0_allShares 19 = .ok (.if_icmp .gt 18, 3) := by decide +kernel
theorem dX0_allShares_22 : decode cX0_allShares 22 = .ok (.iload_n 1, 1) := by decide +kernel
theorem dX0_allShares_23 : decode cX0_allShares 23 = .ok (.aload_n 0, 1) := by decide +kernel
theorem dX0_allShares_24 : decode cX0_allShares 24 = .ok (.iload_n 2, 1) := by decide +kernel
theorem dX0_allShares_25 : decode cX0_allShares 25 = .ok (.iload_n 3, 1) := by decide +kernel
theorem dX0_allShares_26 : decode cX0_allShares 26 = .ok (.invokevirtual 42, 3) := by decide +kernel
theorem dX0_allShares_29 : decode cX0_allShares 29 = .ok (.iadd, 1) := by decide +kernel
theorem dX0_allShares_30 : decode cX0_allShares 30 = .ok (.istore_n 1, 1) := by decide +kernel
theorem dX0_allShares_31 : decode cX0_allShares 31 = .ok (.iinc 3 1, 3) := by decide +kernel
theorem dX0_allShares_34 : decode cX0_allShares 34 = .ok (.goto (-20), 3) := by decide +kernel
theorem dX0_allShares_37 : decode cX0_allShares 37 = .ok (.iinc 2 1, 3) := by decide +kernel
theorem dX0_allShares_40 : decode cX0_allShares 40 = .ok (.goto (-36), 3) := by decide +kernel
theorem dX0_allShares_43 : decode cX0_allShares 43 = .ok (.iload_n 1, 1) := by decide +kernel
theorem dX0_allShares_44 : decode cX0_allShares 44 = .ok (.ireturn, 1) := by decide +kernel
theorem dX0_sharedSteps_0 : decode cX0_sharedSteps 0 = .ok (.iconst 0, 1) := by decide +kernel
theorem dX0_sharedSteps_1 : decode cX0_sharedSteps 1 = .ok (.istore_n 1, 1) := by decide +kernel
theorem dX0_sharedSteps_2 : decode cX0_sharedSteps 2 = .ok (.iconst 0, 1) := by decide +kernel
theorem dX0_sharedSteps_3 : decode cX0_sharedSteps 3 = .ok (.istore_n 2, 1) := by decide +kernel
theorem dX0_sharedSteps_4 : decode cX0_sharedSteps 4 = .ok (.iload_n 2, 1) := by decide +kernel
theorem dX0_sharedSteps_5 : decode cX0_sharedSteps 5 = .ok (.aload_n 0, 1) := by decide +kernel
theorem dX0_sharedSteps_6 : decode cX0_sharedSteps 6 = .ok (.getfield 19, 3) := by decide +kernel
theorem dX0_sharedSteps_9 : decode cX0_sharedSteps 9 = .ok (.if_icmp .ge 36, 3) := by decide +kernel
theorem dX0_sharedSteps_12 : decode cX0_sharedSteps 12 = .ok (.iconst 1, 1) := by decide +kernel
theorem dX0_sharedSteps_13 : decode cX0_sharedSteps 13 = .ok (.istore_n 3, 1) := by decide +kernel
theorem dX0_sharedSteps_14 : decode cX0_sharedSteps 14 = .ok (.iload_n 3, 1) := by decide +kernel
theorem dX0_sharedSteps_15 : decode cX0_sharedSteps 15 = .ok (.aload_n 0, 1) := by decide +kernel
theorem dX0_sharedSteps_16 : decode cX0_sharedSteps 16 = .ok (.getfield 23, 3) := by decide +kernel
theorem dX0_sharedSteps_19 : decode cX0_sharedSteps 19 = .ok (.if_icmp .gt 20, 3) := by decide +kernel
theorem dX0_sharedSteps_22 : decode cX0_sharedSteps 22 = .ok (.iload_n 1, 1) := by decide +kernel
theorem dX0_sharedSteps_23 : decode cX0_sharedSteps 23 = .ok (.aload_n 0, 1) := by decide +kernel
theorem dX0_sharedSteps_24 : decode cX0_sharedSteps 24 = .ok (.iload_n 2, 1) := by decide +kernel
theorem dX0_sharedSteps_25 : decode cX0_sharedSteps 25 = .ok (.iload_n 3, 1) := by decide +kernel
theorem dX0_sharedSteps_26 : decode cX0_sharedSteps 26 = .ok (.invokevirtual 42, 3) := by decide +kernel
theorem dX0_sharedSteps_29 : decode cX0_sharedSteps 29 = .ok (.iload_n 3, 1) := by decide +kernel
theorem dX0_sharedSteps_30 : decode cX0_sharedSteps 30 = .ok (.imul, 1) := by decide +kernel
theorem dX0_sharedSteps_31 : decode cX0_sharedSteps 31 = .ok (.iadd, 1) := by decide +kernel
theorem dX0_sharedSteps_32 : decode cX0_sharedSteps 32 = .ok (.istore_n 1, 1) := by decide +kernel
theorem dX0_sharedSteps_33 : decode cX0_sharedSteps 33 = .ok (.iinc 3 1, 3) := by decide +kernel
theorem dX0_sharedSteps_36 : decode cX0_sharedSteps 36 = .ok (.goto (-22), 3) := by decide +kernel
theorem dX0_sharedSteps_39 : decode cX0_sharedSteps 39 = .ok (.iinc 2 1, 3) := by decide +kernel
theorem dX0_sharedSteps_42 : decode cX0_sharedSteps 42 = .ok (.goto (-38), 3) := by decide +kernel
theorem dX0_sharedSteps_45 : decode cX0_sharedSteps 45 = .ok (.iload_n 1, 1) := by decide +kernel
theorem dX0_sharedSteps_46 : decode cX0_sharedSteps 46 = .ok (.ireturn, 1) := by decide +kernel
theorem dX1_init_0 : decode cX1_init 0 = .ok (.aload_n 0, 1) := by decide +kernel
theorem dX1_init_1 : decode cX1_init 1 = .ok (.invokespecial 3, 3) := by decide +kernel
theorem dX1_init_4 : decode cX1_init 4 = .ok (.aload_n 0, 1) := by decide +kernel
theorem dX1_init_5 : decode cX1_init 5 = .ok (.iconst 0, 1) := by decide +kernel
theorem dX1_init_6 : decode cX1_init 6 = .ok (.putfield 9, 3) := by decide +kernel
theorem dX1_init_9 : decode cX1_init 9 = .ok (.aload_n 0, 1) := by decide +kernel
theorem dX1_init_10 : decode cX1_init 10 = .ok (.iconst 0, 1) := by decide +kernel
theorem dX1_init_11 : decode cX1_init 11 = .ok (.putfield 15, 3) := by decide +kernel
theorem dX1_init_14 : decode cX1_init 14 = .ok (.aload_n 0, 1) := by decide +kernel
theorem dX1_init_15 : decode cX1_init 15 = .ok (.bipush 9, 2) := by decide +kernel
theorem dX1_init_17 : decode cX1_init 17 = .ok (.newarray .int, 2) := by decide +kernel
theorem dX1_init_19 : decode cX1_init 19 = .ok (.putfield 18, 3) := by decide +kernel
theorem dX1_init_22 : decode cX1_init 22 = .ok (.aload_n 0, 1) := by decide +kernel
theorem dX1_init_23 : decode cX1_init 23 = .ok (.bipush 27, 2) := by decide +kernel
theorem dX1_init_25 : decode cX1_init 25 = .ok (.newarray .int, 2) := by decide +kernel
theorem dX1_init_27 : decode cX1_init 27 = .ok (.putfield 22, 3) := by decide +kernel
theorem dX1_init_30 : decode cX1_init 30 = .ok (.aload_n 0, 1) := by decide +kernel
theorem dX1_init_31 : decode cX1_init 31 = .ok (.iconst 0, 1) := by decide +kernel
theorem dX1_init_32 : decode cX1_init 32 = .ok (.putfield 25, 3) := by decide +kernel
theorem dX1_init_35 : decode cX1_init 35 = .ok (.aload_n 0, 1) := by decide +kernel
theorem dX1_init_36 : decode cX1_init 36 = .ok (.sipush 729, 3) := by decide +kernel
theorem dX1_init_39 : decode cX1_init 39 = .ok (.newarray .int, 2) := by decide +kernel
theorem dX1_init_41 : decode cX1_init 41 = .ok (.putfield 28, 3) := by decide +kernel
theorem dX1_init_44 : decode cX1_init 44 = .ok (.aload_n 0, 1) := by decide +kernel
theorem dX1_init_45 : decode cX1_init 45 = .ok (.sipush 243, 3) := by decide +kernel
theorem dX1_init_48 : decode cX1_init 48 = .ok (.newarray .int, 2) := by decide +kernel
theorem dX1_init_50 : decode cX1_init 50 = .ok (.putfield 31, 3) := by decide +kernel
theorem dX1_init_53 : decode cX1_init 53 = .ok (.aload_n 0, 1) := by decide +kernel
theorem dX1_init_54 : decode cX1_init 54 = .ok (.iconst 3, 1) := by decide +kernel
theorem dX1_init_55 : decode cX1_init 55 = .ok (.newarray .int, 2) := by decide +kernel
theorem dX1_init_57 : decode cX1_init 57 = .ok (.putfield 34, 3) := by decide +kernel
theorem dX1_init_60 : decode cX1_init 60 = .ok (.return_, 1) := by decide +kernel
theorem dX1_planMean_0 : decode cX1_planMean 0 = .ok (.aload_n 0, 1) := by decide +kernel
theorem dX1_planMean_1 : decode cX1_planMean 1 = .ok (.aload_n 1, 1) := by decide +kernel
theorem dX1_planMean_2 : decode cX1_planMean 2 = .ok (.getfield 37, 3) := by decide +kernel
theorem dX1_planMean_5 : decode cX1_planMean 5 = .ok (.putfield 9, 3) := by decide +kernel
theorem dX1_planMean_8 : decode cX1_planMean 8 = .ok (.aload_n 0, 1) := by decide +kernel
theorem dX1_planMean_9 : decode cX1_planMean 9 = .ok (.aload_n 1, 1) := by decide +kernel
theorem dX1_planMean_10 : decode cX1_planMean 10 = .ok (.getfield 40, 3) := by decide +kernel
theorem dX1_planMean_13 : decode cX1_planMean 13 = .ok (.putfield 15, 3) := by decide +kernel
theorem dX1_planMean_16 : decode cX1_planMean 16 = .ok (.aload_n 0, 1) := by decide +kernel
theorem dX1_planMean_17 : decode cX1_planMean 17 = .ok (.iconst 0, 1) := by decide +kernel
theorem dX1_planMean_18 : decode cX1_planMean 18 = .ok (.putfield 25, 3) := by decide +kernel
theorem dX1_planMean_21 : decode cX1_planMean 21 = .ok (.iconst 0, 1) := by decide +kernel
theorem dX1_planMean_22 : decode cX1_planMean 22 = .ok (.istore_n 3, 1) := by decide +kernel
theorem dX1_planMean_23 : decode cX1_planMean 23 = .ok (.iload_n 3, 1) := by decide +kernel
theorem dX1_planMean_24 : decode cX1_planMean 24 = .ok (.iconst 3, 1) := by decide +kernel
theorem dX1_planMean_25 : decode cX1_planMean 25 = .ok (.if_icmp .ge 55, 3) := by decide +kernel
theorem dX1_planMean_28 : decode cX1_planMean 28 = .ok (.iconst 0, 1) := by decide +kernel
theorem dX1_planMean_29 : decode cX1_planMean 29 = .ok (.istore 4, 2) := by decide +kernel
theorem dX1_planMean_31 : decode cX1_planMean 31 = .ok (.bipush 8, 2) := by decide +kernel
theorem dX1_planMean_33 : decode cX1_planMean 33 = .ok (.istore 5, 2) := by decide +kernel
theorem dX1_planMean_35 : decode cX1_planMean 35 = .ok (.iload 5, 2) := by decide +kernel
theorem dX1_planMean_37 : decode cX1_planMean 37 = .ok (.ifCond .lt 37, 3) := by decide +kernel
theorem dX1_planMean_40 : decode cX1_planMean 40 = .ok (.aload_n 0, 1) := by decide +kernel
theorem dX1_planMean_41 : decode cX1_planMean 41 = .ok (.getfield 22, 3) := by decide +kernel
theorem dX1_planMean_44 : decode cX1_planMean 44 = .ok (.iload_n 3, 1) := by decide +kernel
theorem dX1_planMean_45 : decode cX1_planMean 45 = .ok (.bipush 9, 2) := by decide +kernel
theorem dX1_planMean_47 : decode cX1_planMean 47 = .ok (.imul, 1) := by decide +kernel
theorem dX1_planMean_48 : decode cX1_planMean 48 = .ok (.iload 5, 2) := by decide +kernel
theorem dX1_planMean_50 : decode cX1_planMean 50 = .ok (.iadd, 1) := by decide +kernel
theorem dX1_planMean_51 : decode cX1_planMean 51 = .ok (.iload 4, 2) := by decide +kernel
theorem dX1_planMean_53 : decode cX1_planMean 53 = .ok (.invokestatic 41, 3) := by decide +kernel
theorem dX1_planMean_56 : decode cX1_planMean 56 = .ok (.iload 4, 2) := by decide +kernel
theorem dX1_planMean_58 : decode cX1_planMean 58 = .ok (.aload_n 1, 1) := by decide +kernel
theorem dX1_planMean_59 : decode cX1_planMean 59 = .ok (.iload_n 3, 1) := by decide +kernel
theorem dX1_planMean_60 : decode cX1_planMean 60 = .ok (.iload 5, 2) := by decide +kernel
theorem dX1_planMean_62 : decode cX1_planMean 62 = .ok (.invokevirtual 45, 3) := by decide +kernel
theorem dX1_planMean_65 : decode cX1_planMean 65 = .ok (.iadd, 1) := by decide +kernel
theorem dX1_planMean_66 : decode cX1_planMean 66 = .ok (.istore 4, 2) := by decide +kernel
theorem dX1_planMean_68 : decode cX1_planMean 68 = .ok (.iinc 5 (-1), 3) := by decide +kernel
theorem dX1_planMean_71 : decode cX1_planMean 71 = .ok (.goto (-36), 3) := by decide +kernel
theorem dX1_planMean_74 : decode cX1_planMean 74 = .ok (.iinc 3 1, 3) := by decide +kernel
theorem dX1_planMean_77 : decode cX1_planMean 77 = .ok (.goto (-54), 3) := by decide +kernel
theorem dX1_planMean_80 : decode cX1_planMean 80 = .ok (.aload_n 0, 1) := by decide +kernel
theorem dX1_planMean_81 : decode cX1_planMean 81 = .ok (.getfield 18, 3) := by decide +kernel
theorem dX1_planMean_84 : decode cX1_planMean 84 = .ok (.ldc 49, 2) := by decide +kernel
theorem dX1_planMean_86 : decode cX1_planMean 86 = .ok (.invokestatic 50, 3) := by decide +kernel
theorem dX1_planMean_89 : decode cX1_planMean 89 = .ok (.aload_n 0, 1) := by decide +kernel
theorem dX1_planMean_90 : decode cX1_planMean 90 = .ok (.invokevirtual 54, 3) := by decide +kernel
theorem dX1_planMean_93 : decode cX1_planMean 93 = .ok (.aload_n 0, 1) := by decide +kernel
theorem dX1_planMean_94 : decode cX1_planMean 94 = .ok (.getfield 28, 3) := by decide +kernel
theorem dX1_planMean_97 : decode cX1_planMean 97 = .ok (.iconst 0, 1) := by decide +kernel
theorem dX1_planMean_98 : decode cX1_planMean 98 = .ok (.invokestatic 57, 3) := by decide +kernel
theorem dX1_planMean_101 : decode cX1_planMean 101 = .ok (.istore_n 3, 1) := by decide +kernel
theorem dX1_planMean_102 : decode cX1_planMean 102 = .ok (.aload_n 0, 1) := by decide +kernel
theorem dX1_planMean_103 : decode cX1_planMean 103 = .ok (.iload_n 3, 1) := by decide +kernel
theorem dX1_planMean_104 : decode cX1_planMean 104 = .ok (.aload_n 2, 1) := by decide +kernel
theorem dX1_planMean_105 : decode cX1_planMean 105 = .ok (.invokevirtual 61, 3) := by decide +kernel
theorem dX1_planMean_108 : decode cX1_planMean 108 = .ok (.ldc 49, 2) := by decide +kernel
theorem dX1_planMean_110 : decode cX1_planMean 110 = .ok (.iload_n 3, 1) := by decide +kernel
theorem dX1_planMean_111 : decode cX1_planMean 111 = .ok (.isub, 1) := by decide +kernel
theorem dX1_planMean_112 : decode cX1_planMean 112 = .ok (.ireturn, 1) := by decide +kernel
theorem dX1_planWorst_0 : decode cX1_planWorst 0 = .ok (.aload_n 0, 1) := by decide +kernel
theorem dX1_planWorst_1 : decode cX1_planWorst 1 = .ok (.aload_n 1, 1) := by decide +kernel
theorem dX1_planWorst_2 : decode cX1_planWorst 2 = .ok (.getfield 37, 3) := by decide +kernel
theorem dX1_planWorst_5 : decode cX1_planWorst 5 = .ok (.putfield 9, 3) := by decide +kernel
theorem dX1_planWorst_8 : decode cX1_planWorst 8 = .ok (.aload_n 0, 1) := by decide +kernel
theorem dX1_planWorst_9 : decode cX1_planWorst 9 = .ok (.aload_n 1, 1) := by decide +kernel
theorem dX1_planWorst_10 : decode cX1_planWorst 10 = .ok (.getfield 40, 3) := by decide +kernel
theorem dX1_planWorst_13 : decode cX1_planWorst 13 = .ok (.putfield 15, 3) := by decide +kernel
theorem dX1_planWorst_16 : decode cX1_planWorst 16 = .ok (.aload_n 0, 1) := by decide +kernel
theorem dX1_planWorst_17 : decode cX1_planWorst 17 = .ok (.iconst 1, 1) := by decide +kernel
theorem dX1_planWorst_18 : decode cX1_planWorst 18 = .ok (.putfield 25, 3) := by decide +kernel
theorem dX1_planWorst_21 : decode cX1_planWorst 21 = .ok (.aload_n 0, 1) := by decide +kernel
theorem dX1_planWorst_22 : decode cX1_planWorst 22 = .ok (.getfield 22, 3) := by decide +kernel
theorem dX1_planWorst_25 : decode cX1_planWorst 25 = .ok (.iconst 0, 1) := by decide +kernel
theorem dX1_planWorst_26 : decode cX1_planWorst 26 = .ok (.invokestatic 50, 3) := by decide +kernel
theorem dX1_planWorst_29 : decode cX1_planWorst 29 = .ok (.iconst 0, 1) := by decide +kernel
theorem dX1_planWorst_30 : decode cX1_planWorst 30 = .ok (.istore_n 3, 1) := by decide +kernel
theorem dX1_planWorst_31 : decode cX1_planWorst 31 = .ok (.sipush 840, 3) := by decide +kernel
theorem dX1_planWorst_34 : decode cX1_planWorst 34 = .ok (.aload_n 0, 1) := by decide +kernel
theorem dX1_planWorst_35 : decode cX1_planWorst 35 = .ok (.getfield 15, 3) := by decide +kernel
theorem dX1_planWorst_38 : decode cX1_planWorst 38 = .ok (.imul, 1) := by decide +kernel
theorem dX1_planWorst_39 : decode cX1_planWorst 39 = .ok (.aload_n 0, 1) := by decide +kernel
theorem dX1_planWorst_40 : decode cX1_planWorst 40 = .ok (.getfield 9, 3) := by decide +kernel
theorem dX1_planWorst_43 : decode cX1_planWorst 43 = .ok (.iconst 1, 1) := by decide +kernel
theorem dX1_planWorst_44 : decode cX1_planWorst 44 = .ok (.isub, 1) := by decide +kernel
theorem dX1_planWorst_45 : decode cX1_planWorst 45 = .ok (.imul, 1) := by decide +kernel
theorem dX1_planWorst_46 : decode cX1_planWorst 46 = .ok (.istore 4, 2) := by decide +kernel
theorem dX1_planWorst_48 : decode cX1_planWorst 48 = .ok (.iconst 0, 1) := by decide +kernel
theorem dX1_planWorst_49 : decode cX1_planWorst 49 = .ok (.istore 5, 2) := by decide +kernel
theorem dX1_planWorst_51 : decode cX1_planWorst 51 = .ok (.iload 5, 2) := by decide +kernel
theorem dX1_planWorst_53 : decode cX1_planWorst 53 = .ok (.bipush 14, 2) := by decide +kernel
theorem dX1_planWorst_55 : decode cX1_planWorst 55 = .ok (.if_icmp .ge 56, 3) := by decide +kernel
theorem dX1_planWorst_58 : decode cX1_planWorst 58 = .ok (.iload 4, 2) := by decide +kernel
theorem dX1_planWorst_60 : decode cX1_planWorst 60 = .ok (.iload_n 3, 1) := by decide +kernel
theorem dX1_planWorst_61 : decode cX1_planWorst 61 = .ok (.isub, 1) := by decide +kernel
theorem dX1_planWorst_62 : decode cX1_planWorst 62 = .ok (.iconst 1, 1) := by decide +kernel
theorem dX1_planWorst_63 : decode cX1_planWorst 63 = .ok (.if_icmp .le 48, 3) := by decide +kernel
theorem dX1_planWorst_66 : decode cX1_planWorst 66 = .ok (.iload_n 3, 1) := by decide +kernel
theorem dX1_planWorst_67 : decode cX1_planWorst 67 = .ok (.iload 4, 2) := by decide +kernel
theorem dX1_planWorst_69 : decode cX1_planWorst 69 = .ok (.iadd, 1) := by decide +kernel
theorem dX1_planWorst_70 : decode cX1_planWorst 70 = .ok (.iconst 2, 1) := by decide +kernel
theorem dX1_planWorst_71 : decode cX1_planWorst 71 = .ok (.idiv, 1) := by decide +kernel
theorem dX1_planWorst_72 : decode cX1_planWorst 72 = .ok (.istore 6, 2) := by decide +kernel
theorem dX1_planWorst_74 : decode cX1_planWorst 74 = .ok (.aload_n 0, 1) := by decide +kernel
theorem dX1_planWorst_75 : decode cX1_planWorst 75 = .ok (.iload 6, 2) := by decide +kernel
theorem dX1_planWorst_77 : decode cX1_planWorst 77 = .ok (.invokevirtual 65, 3) := by decide +kernel
theorem dX1_planWorst_80 : decode cX1_planWorst 80 = .ok (.aload_n 0, 1) := by decide +kernel
theorem dX1_planWorst_81 : decode cX1_planWorst 81 = .ok (.invokevirtual 54, 3) := by decide +kernel
theorem dX1_planWorst_84 : decode cX1_planWorst 84 = .ok (.aload_n 0, 1) := by decide +kernel
theorem dX1_planWorst_85 : decode cX1_planWorst 85 = .ok (.getfield 28, 3) := by decide +kernel
theorem dX1_planWorst_88 : decode cX1_planWorst 88 = .ok (.iconst 0, 1) := by decide +kernel
theorem dX1_planWorst_89 : decode cX1_planWorst 89 = .ok (.invokestatic 57, 3) := by decide +kernel
theorem dX1_planWorst_92 : decode cX1_planWorst 92 = .ok (.ifCond .lt 10, 3) := by decide +kernel
theorem dX1_planWorst_95 : decode cX1_planWorst 95 = .ok (.iload 6, 2) := by decide +kernel
theorem dX1_planWorst_97 : decode cX1_planWorst 97 = .ok (.istore 4, 2) := by decide +kernel
theorem dX1_planWorst_99 : decode cX1_planWorst 99 = .ok (.goto 6, 3) := by decide +kernel
theorem dX1_planWorst_102 : decode cX1_planWorst 102 = .ok (.iload 6, 2) := by decide +kernel
theorem dX1_planWorst_104 : decode cX1_planWorst 104 = .ok (.istore_n 3, 1) := by decide +kernel
theorem dX1_planWorst_105 : decode cX1_planWorst 105 = .ok (.iinc 5 1, 3) := by decide +kernel
theorem dX1_planWorst_108 : decode cX1_planWorst 108 = .ok (.goto (-57), 3) := by decide +kernel
theorem dX1_planWorst_111 : decode cX1_planWorst 111 = .ok (.aload_n 0, 1) := by decide +kernel
theorem dX1_planWorst_112 : decode cX1_planWorst 112 = .ok (.iload 4, 2) := by decide +kernel
theorem dX1_planWorst_114 : decode cX1_planWorst 114 = .ok (.invokevirtual 65, 3) := by decide +kernel
theorem dX1_planWorst_117 : decode cX1_planWorst 117 = .ok (.aload_n 0, 1) := by decide +kernel
theorem dX1_planWorst_118 : decode cX1_planWorst 118 = .ok (.invokevirtual 54, 3) := by decide +kernel
theorem dX1_planWorst_121 : decode cX1_planWorst 121 = .ok (.aload_n 0, 1) := by decide +kernel
theorem dX1_planWorst_122 : decode cX1_planWorst 122 = .ok (.iconst 0, 1) := by decide +kernel
theorem dX1_planWorst_123 : decode cX1_planWorst 123 = .ok (.aload_n 2, 1) := by decide +kernel
theorem dX1_planWorst_124 : decode cX1_planWorst 124 = .ok (.invokevirtual 61, 3) := by decide +kernel
theorem dX1_planWorst_127 : decode cX1_planWorst 127 = .ok (.iload 4, 2) := by decide +kernel
theorem dX1_planWorst_129 : decode cX1_planWorst 129 = .ok (.ireturn, 1) := by decide +kernel
theorem dX1_capBy_0 : decode cX1_capBy 0 = .ok (.iconst 0, 1) := by decide +kernel
theorem dX1_capBy_1 : decode cX1_capBy 1 = .ok (.istore_n 2, 1) := by decide +kernel
theorem dX1_capBy_2 : decode cX1_capBy 2 = .ok (.iload_n 2, 1) := by decide +kernel
theorem dX1_capBy_3 : decode cX1_capBy 3 = .ok (.bipush 9, 2) := by decide +kernel
theorem dX1_capBy_5 : decode cX1_capBy 5 = .ok (.if_icmp .ge 24, 3) := by decide +kernel
theorem dX1_capBy_8 : decode cX1_capBy 8 = .ok (.aload_n 0, 1) := by decide +kernel
theorem dX1_capBy_9 : decode cX1_capBy 9 = .ok (.getfield 18, 3) := by decide +kernel
theorem dX1_capBy_12 : decode cX1_capBy 12 = .ok (.iload_n 2, 1) := by decide +kernel
theorem dX1_capBy_13 : decode cX1_capBy 13 = .ok (.iload_n 1, 1) := by decide +kernel
theorem dX1_capBy_14 : decode cX1_capBy 14 = .ok (.iload_n 2, 1) := by decide +kernel
theorem dX1_capBy_15 : decode cX1_capBy 15 = .ok (.imul, 1) := by decide +kernel
theorem dX1_capBy_16 : decode cX1_capBy 16 = .ok (.sipush 840, 3) := by decide +kernel
theorem dX1_capBy_19 : decode cX1_capBy 19 = .ok (.idiv, 1) := by decide +kernel
theorem dX1_capBy_20 : decode cX1_capBy 20 = .ok (.invokestatic 41, 3) := by decide +kernel
theorem dX1_capBy_23 : decode cX1_capBy 23 = .ok (.iinc 2 1, 3) := by decide +kernel
theorem dX1_capBy_26 : decode cX1_capBy 26 = .ok (.goto (-24), 3) := by decide +kernel
theorem dX1_capBy_29 : decode cX1_capBy 29 = .ok (.return_, 1) := by decide +kernel
theorem dX1_sweep_0 : decode cX1_sweep 0 = .ok (.aload_n 0, 1) := by decide +kernel
theorem dX1_sweep_1 : decode cX1_sweep 1 = .ok (.iconst 0, 1) := by decide +kernel
theorem dX1_sweep_2 : decode cX1_sweep 2 = .ok (.invokevirtual 69, 3) := by decide +kernel
theorem dX1_sweep_5 : decode cX1_sweep 5 = .ok (.istore_n 1, 1) := by decide +kernel
theorem dX1_sweep_6 : decode cX1_sweep 6 = .ok (.iload_n 1, 1) := by decide +kernel
theorem dX1_sweep_7 : decode cX1_sweep 7 = .ok (.ifCond .lt 48, 3) := by decide +kernel
theorem dX1_sweep_10 : decode cX1_sweep 10 = .ok (.aload_n 0, 1) := by decide +kernel
theorem dX1_sweep_11 : decode cX1_sweep 11 = .ok (.iconst 1, 1) := by decide +kernel
theorem dX1_sweep_12 : decode cX1_sweep 12 = .ok (.invokevirtual 69, 3) := by decide +kernel
theorem dX1_sweep_15 : decode cX1_sweep 15 = .ok (.istore_n 2, 1) := by decide +kernel
theorem dX1_sweep_16 : decode cX1_sweep 16 = .ok (.iload_n 2, 1) := by decide +kernel
theorem dX1_sweep_17 : decode cX1_sweep 17 = .ok (.ifCond .lt 32, 3) := by decide +kernel
theorem dX1_sweep_20 : decode cX1_sweep 20 = .ok (.aload_n 0, 1) := by decide +kernel
theorem dX1_sweep_21 : decode cX1_sweep 21 = .ok (.iconst 2, 1) := by decide +kernel
theorem dX1_sweep_22 : decode cX1_sweep 22 = .ok (.invokevirtual 69, 3) := by decide +kernel
theorem dX1_sweep_25 : decode cX1_sweep 25 = .ok (.istore_n 3, 1) := by decide +kernel
theorem dX1_sweep_26 : decode cX1_sweep 26 = .ok (.iload_n 3, 1) := by decide +kernel
theorem dX1_sweep_27 : decode cX1_sweep 27 = .ok (.ifCond .lt 16, 3) := by decide +kernel
theorem dX1_sweep_30 : decode cX1_sweep 30 = .ok (.aload_n 0, 1) := by decide +kernel
theorem dX1_sweep_31 : decode cX1_sweep 31 = .ok (.iload_n 1, 1) := by decide +kernel
theorem dX1_sweep_32 : decode cX1_sweep 32 = .ok (.iload_n 2, 1) := by decide +kernel
theorem dX1_sweep_33 : decode cX1_sweep 33 = .ok (.iload_n 3, 1) := by decide +kernel
theorem dX1_sweep_34 : decode cX1_sweep 34 = .ok (.invokevirtual 73, 3) := by decide +kernel
theorem dX1_sweep_37 : decode cX1_sweep 37 = .ok (.iinc 3 (-1), 3) := by decide +kernel
theorem dX1_sweep_40 : decode cX1_sweep 40 = .ok (.goto (-14), 3) := by decide +kernel
theorem dX1_sweep_43 : decode cX1_sweep 43 = .ok (.iinc 2 (-1), 3) := by decide +kernel
theorem dX1_sweep_46 : decode cX1_sweep 46 = .ok (.goto (-30), 3) := by decide +kernel
theorem dX1_sweep_49 : decode cX1_sweep 49 = .ok (.iinc 1 (-1), 3) := by decide +kernel
theorem dX1_sweep_52 : decode cX1_sweep 52 = .ok (.goto (-46), 3) := by decide +kernel
theorem dX1_sweep_55 : decode cX1_sweep 55 = .ok (.return_, 1) := by decide +kernel
theorem dX1_lengthOf_0 : decode cX1_lengthOf 0 = .ok (.iload_n 1, 1) := by decide +kernel
theorem dX1_lengthOf_1 : decode cX1_lengthOf 1 = .ok (.aload_n 0, 1) := by decide +kernel
theorem dX1_lengthOf_2 : decode cX1_lengthOf 2 = .ok (.getfield 9, 3) := by decide +kernel
theorem dX1_lengthOf_5 : decode cX1_lengthOf 5 = .ok (.if_icmp .ge 10, 3) := by decide +kernel
theorem dX1_lengthOf_8 : decode cX1_lengthOf 8 = .ok (.aload_n 0, 1) := by decide +kernel
theorem dX1_lengthOf_9 : decode cX1_lengthOf 9 = .ok (.getfield 15, 3) := by decide +kernel
theorem dX1_lengthOf_12 : decode cX1_lengthOf 12 = .ok (.goto 4, 3) := by decide +kernel
theorem dX1_lengthOf_15 : decode cX1_lengthOf 15 = .ok (.iconst 0, 1) := by decide +kernel
theorem dX1_lengthOf_16 : decode cX1_lengthOf 16 = .ok (.ireturn, 1) := by decide +kernel
theorem dX1_settle_0 : decode cX1_settle 0 = .ok (.iload_n 2, 1) := by decide +kernel
theorem dX1_settle_1 : decode cX1_settle 1 = .ok (.bipush 9, 2) := by decide +kernel
theorem dX1_settle_3 : decode cX1_settle 3 = .ok (.imul, 1) := by decide +kernel
theorem dX1_settle_4 : decode cX1_settle 4 = .ok (.iload_n 3, 1) := by decide +kernel
theorem dX1_settle_5 : decode cX1_settle 5 = .ok (.iadd, 1) := by decide +kernel
theorem dX1_settle_6 : decode cX1_settle 6 = .ok (.istore 4, 2) := by decide +kernel
theorem dX1_settle_8 : decode cX1_settle 8 = .ok (.bipush 81, 2) := by decide +kernel
theorem dX1_settle_10 : decode cX1_settle 10 = .ok (.iload_n 1, 1) := by decide +kernel
theorem dX1_settle_11 : decode cX1_settle 11 = .ok (.bipush 9, 2) := by decide +kernel
theorem dX1_settle_13 : decode cX1_settle 13 = .ok (.imul, 1) := by decide +kernel
theorem dX1_settle_14 : decode cX1_settle 14 = .ok (.iadd, 1) := by decide +kernel
theorem dX1_settle_15 : decode cX1_settle 15 = .ok (.iload_n 3, 1) := by decide +kernel
theorem dX1_settle_16 : decode cX1_settle 16 = .ok (.iadd, 1) := by decide +kernel
theorem dX1_settle_17 : decode cX1_settle 17 = .ok (.istore 5, 2) := by decide +kernel
theorem dX1_settle_19 : decode cX1_settle 19 = .ok (.sipush 162, 3) := by decide +kernel
theorem dX1_settle_22 : decode cX1_settle 22 = .ok (.iload_n 1, 1) := by decide +kernel
theorem dX1_settle_23 : decode cX1_settle 23 = .ok (.bipush 9, 2) := by decide +kernel
theorem dX1_settle_25 : decode cX1_settle 25 = .ok (.imul, 1) := by decide +kernel
theorem dX1_settle_26 : decode cX1_settle 26 = .ok (.iadd, 1) := by decide +kernel
theorem dX1_settle_27 : decode cX1_settle 27 = .ok (.iload_n 2, 1) := by decide +kernel
theorem dX1_settle_28 : decode cX1_settle 28 = .ok (.iadd, 1) := by decide +kernel
theorem dX1_settle_29 : decode cX1_settle 29 = .ok (.istore 6, 2) := by decide +kernel
theorem dX1_settle_31 : decode cX1_settle 31 = .ok (.aload_n 0, 1) := by decide +kernel
theorem dX1_settle_32 : decode cX1_settle 32 = .ok (.iconst 0, 1) := by decide +kernel
theorem dX1_settle_33 : decode cX1_settle 33 = .ok (.iload_n 1, 1) := by decide +kernel
theorem dX1_settle_34 : decode cX1_settle 34 = .ok (.iload 4, 2) := by decide +kernel
theorem dX1_settle_36 : decode cX1_settle 36 = .ok (.invokevirtual 77, 3) := by decide +kernel
theorem dX1_settle_39 : decode cX1_settle 39 = .ok (.aload_n 0, 1) := by decide +kernel
theorem dX1_settle_40 : decode cX1_settle 40 = .ok (.iconst 1, 1) := by decide +kernel
theorem dX1_settle_41 : decode cX1_settle 41 = .ok (.iload_n 2, 1) := by decide +kernel
theorem dX1_settle_42 : decode cX1_settle 42 = .ok (.iload 5, 2) := by decide +kernel
theorem dX1_settle_44 : decode cX1_settle 44 = .ok (.invokevirtual 77, 3) := by decide +kernel
theorem dX1_settle_47 : decode cX1_settle 47 = .ok (.aload_n 0, 1) := by decide +kernel
theorem dX1_settle_48 : decode cX1_settle 48 = .ok (.iconst 2, 1) := by decide +kernel
theorem dX1_settle_49 : decode cX1_settle 49 = .ok (.iload_n 3, 1) := by decide +kernel
theorem dX1_settle_50 : decode cX1_settle 50 = .ok (.iload 6, 2) := by decide +kernel
theorem dX1_settle_52 : decode cX1_settle 52 = .ok (.invokevirtual 77, 3) := by decide +kernel
theorem dX1_settle_55 : decode cX1_settle 55 = .ok (.invokestatic 81, 3) := by decide +kernel
theorem dX1_settle_58 : decode cX1_settle 58 = .ok (.invokestatic 81, 3) := by decide +kernel
theorem dX1_settle_61 : decode cX1_settle 61 = .ok (.istore 7, 2) := by decide +kernel
theorem dX1_settle_63 : decode cX1_settle 63 = .ok (.iload_n 1, 1) := by decide +kernel
theorem dX1_settle_64 : decode cX1_settle 64 = .ok (.aload_n 0, 1) := by decide +kernel
theorem dX1_settle_65 : decode cX1_settle 65 = .ok (.iconst 0, 1) := by decide +kernel
theorem dX1_settle_66 : decode cX1_settle 66 = .ok (.invokevirtual 69, 3) := by decide +kernel
theorem dX1_settle_69 : decode cX1_settle 69 = .ok (.if_icmp .ne 25, 3) := by decide +kernel
theorem dX1_settle_72 : decode cX1_settle 72 = .ok (.iload_n 2, 1) := by decide +kernel
theorem dX1_settle_73 : decode cX1_settle 73 = .ok (.aload_n 0, 1) := by decide +kernel
theorem dX1_settle_74 : decode cX1_settle 74 = .ok (.iconst 1, 1) := by decide +kernel
theorem dX1_settle_75 : decode cX1_settle 75 = .ok (.invokevirtual 69, 3) := by decide +kernel
theorem dX1_settle_78 : decode cX1_settle 78 = .ok (.if_icmp .ne 16, 3) := by decide +kernel
theorem dX1_settle_81 : decode cX1_settle 81 = .ok (.iload_n 3, 1) := by decide +kernel
theorem dX1_settle_82 : decode cX1_settle 82 = .ok (.aload_n 0, 1) := by decide +kernel
theorem dX1_settle_83 : decode cX1_settle 83 = .ok (.iconst 2, 1) := by decide +kernel
theorem dX1_settle_84 : decode cX1_settle 84 = .ok (.invokevirtual 69, 3) := by decide +kernel
theorem dX1_settle_87 : decode cX1_settle 87 = .ok (.if_icmp .ne 7, 3) := by decide +kernel
theorem dX1_settle_90 : decode cX1_settle 90 = .ok (.ldc 49, 2) := by decide +kernel
theorem dX1_settle_92 : decode cX1_settle 92 = .ok (.istore 7, 2) := by decide +kernel
theorem dX1_settle_94 : decode cX1_settle 94 = .ok (.aload_n 0, 1) := by decide +kernel
theorem dX1_settle_95 : decode cX1_settle 95 = .ok (.getfield 28, 3) := by decide +kernel
theorem dX1_settle_98 : decode cX1_settle 98 = .ok (.iload_n 1, 1) := by decide +kernel
theorem dX1_settle_99 : decode cX1_settle 99 = .ok (.bipush 9, 2) := by decide +kernel
theorem dX1_settle_101 : decode cX1_settle 101 = .ok (.imul, 1) := by decide +kernel
theorem dX1_settle_102 : decode cX1_settle 102 = .ok (.iload_n 2, 1) := by decide +kernel
theorem dX1_settle_103 : decode cX1_settle 103 = .ok (.iadd, 1) := by decide +kernel
theorem dX1_settle_104 : decode cX1_settle 104 = .ok (.bipush 9, 2) := by decide +kernel
theorem dX1_settle_106 : decode cX1_settle 106 = .ok (.imul, 1) := by decide +kernel
theorem dX1_settle_107 : decode cX1_settle 107 = .ok (.iload_n 3, 1) := by decide +kernel
theorem dX1_settle_108 : decode cX1_settle 108 = .ok (.iadd, 1) := by decide +kernel
theorem dX1_settle_109 : decode cX1_settle 109 = .ok (.iload 7, 2) := by decide +kernel
theorem dX1_settle_111 : decode cX1_settle 111 = .ok (.invokestatic 41, 3) := by decide +kernel
theorem dX1_settle_114 : decode cX1_settle 114 = .ok (.aload_n 0, 1) := by decide +kernel
theorem dX1_settle_115 : decode cX1_settle 115 = .ok (.getfield 25, 3) := by decide +kernel
theorem dX1_settle_118 : decode cX1_settle 118 = .ok (.aload_n 0, 1) := by decide +kernel
theorem dX1_settle_119 : decode cX1_settle 119 = .ok (.getfield 22, 3) := by decide +kernel
theorem dX1_settle_122 : decode cX1_settle 122 = .ok (.iload_n 1, 1) := by decide +kernel
theorem dX1_settle_123 : decode cX1_settle 123 = .ok (.invokestatic 57, 3) := by decide +kernel
theorem dX1_settle_126 : decode cX1_settle 126 = .ok (.iadd, 1) := by decide +kernel
theorem dX1_settle_127 : decode cX1_settle 127 = .ok (.aload_n 0, 1) := by decide +kernel
theorem dX1_settle_128 : decode cX1_settle 128 = .ok (.getfield 22, 3) := by decide +kernel
theorem dX1_settle_131 : decode cX1_settle 131 = .ok (.bipush 9, 2) := by decide +kernel
theorem dX1_settle_133 : decode cX1_settle 133 = .ok (.iload_n 2, 1) := by decide +kernel
theorem dX1_settle_134 : decode cX1_settle 134 = .ok (.iadd, 1) := by decide +kernel
theorem dX1_settle_135 : decode cX1_settle 135 = .ok (.invokestatic 57, 3) := by decide +kernel
theorem dX1_settle_138 : decode cX1_settle 138 = .ok (.iadd, 1) := by decide +kernel
theorem dX1_settle_139 : decode cX1_settle 139 = .ok (.aload_n 0, 1) := by decide +kernel
theorem dX1_settle_140 : decode cX1_settle 140 = .ok (.getfield 22, 3) := by decide +kernel
theorem dX1_settle_143 : decode cX1_settle 143 = .ok (.bipush 18, 2) := by decide +kernel
theorem dX1_settle_145 : decode cX1_settle 145 = .ok (.iload_n 3, 1) := by decide +kernel
theorem dX1_settle_146 : decode cX1_settle 146 = .ok (.iadd, 1) := by decide +kernel
theorem dX1_settle_147 : decode cX1_settle 147 = .ok (.invokestatic 57, 3) := by decide +kernel
theorem dX1_settle_150 : decode cX1_settle 150 = .ok (.iadd, 1) := by decide +kernel
theorem dX1_settle_151 : decode cX1_settle 151 = .ok (.istore 8, 2) := by decide +kernel
theorem dX1_settle_153 : decode cX1_settle 153 = .ok (.aload_n 0, 1) := by decide +kernel
theorem dX1_settle_154 : decode cX1_settle 154 = .ok (.iconst 0, 1) := by decide +kernel
theorem dX1_settle_155 : decode cX1_settle 155 = .ok (.iload_n 1, 1) := by decide +kernel
theorem dX1_settle_156 : decode cX1_settle 156 = .ok (.iload 4, 2) := by decide +kernel
theorem dX1_settle_158 : decode cX1_settle 158 = .ok (.iload 7, 2) := by decide +kernel
theorem dX1_settle_160 : decode cX1_settle 160 = .ok (.iload_n 1, 1) := by decide +kernel
theorem dX1_settle_161 : decode cX1_settle 161 = .ok (.iload 8, 2) := by decide +kernel
theorem dX1_settle_163 : decode cX1_settle 163 = .ok (.imul, 1) := by decide +kernel
theorem dX1_settle_164 : decode cX1_settle 164 = .ok (.isub, 1) := by decide +kernel
theorem dX1_settle_165 : decode cX1_settle 165 = .ok (.invokevirtual 86, 3) := by decide +kernel
theorem dX1_settle_168 : decode cX1_settle 168 = .ok (.aload_n 0, 1) := by decide +kernel
theorem dX1_settle_169 : decode cX1_settle 169 = .ok (.iconst 1, 1) := by decide +kernel
theorem dX1_settle_170 : decode cX1_settle 170 = .ok (.iload_n 2, 1) := by decide +kernel
theorem dX1_settle_171 : decode cX1_settle 171 = .ok (.iload 5, 2) := by decide +kernel
theorem dX1_settle_173 : decode cX1_settle 173 = .ok (.iload 7, 2) := by decide +kernel
theorem dX1_settle_175 : decode cX1_settle 175 = .ok (.iload_n 2, 1) := by decide +kernel
theorem dX1_settle_176 : decode cX1_settle 176 = .ok (.iload 8, 2) := by decide +kernel
theorem dX1_settle_178 : decode cX1_settle 178 = .ok (.imul, 1) := by decide +kernel
theorem dX1_settle_179 : decode cX1_settle 179 = .ok (.isub, 1) := by decide +kernel
theorem dX1_settle_180 : decode cX1_settle 180 = .ok (.invokevirtual 86, 3) := by decide +kernel
theorem dX1_settle_183 : decode cX1_settle 183 = .ok (.aload_n 0, 1) := by decide +kernel
theorem dX1_settle_184 : decode cX1_settle 184 = .ok (.iconst 2, 1) := by decide +kernel
theorem dX1_settle_185 : decode cX1_settle 185 = .ok (.iload_n 3, 1) := by decide +kernel
theorem dX1_settle_186 : decode cX1_settle 186 = .ok (.iload 6, 2) := by decide +kernel
theorem dX1_settle_188 : decode cX1_settle 188 = .ok (.iload 7, 2) := by decide +kernel
theorem dX1_settle_190 : decode cX1_settle 190 = .ok (.iload_n 3, 1) := by decide +kernel
theorem dX1_settle_191 : decode cX1_settle 191 = .ok (.iload 8, 2) := by decide +kernel
theorem dX1_settle_193 : decode cX1_settle 193 = .ok (.imul, 1) := by decide +kernel
theorem dX1_settle_194 : decode cX1_settle 194 = .ok (.isub, 1) := by decide +kernel
theorem dX1_settle_195 : decode cX1_settle 195 = .ok (.invokevirtual 86, 3) := by decide +kernel
theorem dX1_settle_198 : decode cX1_settle 198 = .ok (.return_, 1) := by decide +kernel
theorem dX1_through_0 : decode cX1_through 0 = .ok (.iload_n 2, 1) := by decide +kernel
theorem dX1_through_1 : decode cX1_through 1 = .ok (.aload_n 0, 1) := by decide +kernel
theorem dX1_through_2 : decode cX1_through 2 = .ok (.iload_n 1, 1) := by decide +kernel
theorem dX1_through_3 : decode cX1_through 3 = .ok (.invokevirtual 69, 3) := by decide +kernel
theorem dX1_through_6 : decode cX1_through 6 = .ok (.if_icmp .ge 27, 3) := by decide +kernel
theorem dX1_through_9 : decode cX1_through 9 = .ok (.aload_n 0, 1) := by decide +kernel
theorem dX1_through_10 : decode cX1_through 10 = .ok (.getfield 18, 3) := by decide +kernel
theorem dX1_through_13 : decode cX1_through 13 = .ok (.iload_n 2, 1) := by decide +kernel
theorem dX1_through_14 : decode cX1_through 14 = .ok (.iconst 1, 1) := by decide +kernel
theorem dX1_through_15 : decode cX1_through 15 = .ok (.iadd, 1) := by decide +kernel
theorem dX1_through_16 : decode cX1_through 16 = .ok (.invokestatic 57, 3) := by decide +kernel
theorem dX1_through_19 : decode cX1_through 19 = .ok (.aload_n 0, 1) := by decide +kernel
theorem dX1_through_20 : decode cX1_through 20 = .ok (.getfield 31, 3) := by decide +kernel
theorem dX1_through_23 : decode cX1_through 23 = .ok (.iload_n 3, 1) := by decide +kernel
theorem dX1_through_24 : decode cX1_through 24 = .ok (.invokestatic 57, 3) := by decide +kernel
theorem dX1_through_27 : decode cX1_through 27 = .ok (.invokestatic 90, 3) := by decide +kernel
theorem dX1_through_30 : decode cX1_through 30 = .ok (.goto 5, 3) := by decide +kernel
theorem dX1_through_33 : decode cX1_through 33 = .ok (.ldc 93, 2) := by decide +kernel
theorem dX1_through_35 : decode cX1_through 35 = .ok (.ireturn, 1) := by decide +kernel
theorem dX1_offer_0 : decode cX1_offer 0 = .ok (.iload_n 2, 1) := by decide +kernel
theorem dX1_offer_1 : decode cX1_offer 1 = .ok (.aload_n 0, 1) := by decide +kernel
theorem dX1_offer_2 : decode cX1_offer 2 = .ok (.iload_n 1, 1) := by decide +kernel
theorem dX1_offer_3 : decode cX1_offer 3 = .ok (.invokevirtual 69, 3) := by decide +kernel
theorem dX1_offer_6 : decode cX1_offer 6 = .ok (.if_icmp .ne 7, 3) := by decide +kernel
theorem dX1_offer_9 : decode cX1_offer 9 = .ok (.iconst 1, 1) := by decide +kernel
theorem dX1_offer_10 : decode cX1_offer 10 = .ok (.goto 4, 3) := by decide +kernel
theorem dX1_offer_13 : decode cX1_offer 13 = .ok (.iconst 0, 1) := by decide +kernel
theorem dX1_offer_14 : decode cX1_offer 14 = .ok (.istore 5, 2) := by decide +kernel
theorem dX1_offer_16 : decode cX1_offer 16 = .ok (.aload_n 0, 1) := by decide +kernel
theorem dX1_offer_17 : decode cX1_offer 17 = .ok (.getfield 31, 3) := by decide +kernel
theorem dX1_offer_20 : decode cX1_offer 20 = .ok (.iload_n 3, 1) := by decide +kernel
theorem dX1_offer_21 : decode cX1_offer 21 = .ok (.iload 5, 2) := by decide +kernel
theorem dX1_offer_23 : decode cX1_offer 23 = .ok (.ifCond .eq 8, 3) := by decide +kernel
theorem dX1_offer_26 : decode cX1_offer 26 = .ok (.iload 4, 2) := by decide +kernel
theorem dX1_offer_28 : decode cX1_offer 28 = .ok (.goto 16, 3) := by decide +kernel
theorem dX1_offer_31 : decode cX1_offer 31 = .ok (.iload 4, 2) := by decide +kernel
theorem dX1_offer_33 : decode cX1_offer 33 = .ok (.aload_n 0, 1) := by decide +kernel
theorem dX1_offer_34 : decode cX1_offer 34 = .ok (.getfield 31, 3) := by decide +kernel
theorem dX1_offer_37 : decode cX1_offer 37 = .ok (.iload_n 3, 1) := by decide +kernel
theorem dX1_offer_38 : decode cX1_offer 38 = .ok (.invokestatic 57, 3) := by decide +kernel
theorem dX1_offer_41 : decode cX1_offer 41 = .ok (.invokestatic 81, 3) := by decide +kernel
theorem dX1_offer_44 : decode cX1_offer 44 = .ok (.invokestatic 41, 3) := by decide +kernel
theorem dX1_offer_47 : decode cX1_offer 47 = .ok (.return_, 1) := by decide +kernel
theorem dX1_write_0 : decode cX1_write 0 = .ok (.aload_n 2, 1) := by decide +kernel
theorem dX1_write_1 : decode cX1_write 1 = .ok (.invokevirtual 94, 3) := by decide +kernel
theorem dX1_write_4 : decode cX1_write 4 = .ok (.aload_n 0, 1) := by decide +kernel
theorem dX1_write_5 : decode cX1_write 5 = .ok (.getfield 34, 3) := by decide +kernel
theorem dX1_write_8 : decode cX1_write 8 = .ok (.iconst 0, 1) := by decide +kernel
theorem dX1_write_9 : decode cX1_write 9 = .ok (.invokestatic 50, 3) := by decide +kernel
theorem dX1_write_12 : decode cX1_write 12 = .ok (.iload_n 1, 1) := by decide +kernel
theorem dX1_write_13 : decode cX1_write 13 = .ok (.istore_n 3, 1) := by decide +kernel
theorem dX1_write_14 : decode cX1_write 14 = .ok (.iconst 0, 1) := by decide +kernel
theorem dX1_write_15 : decode cX1_write 15 = .ok (.istore 4, 2) := by decide +kernel
theorem dX1_write_17 : decode cX1_write 17 = .ok (.iload 4, 2) := by decide +kernel
theorem dX1_write_19 : decode cX1_write 19 = .ok (.bipush 30, 2) := by decide +kernel
theorem dX1_write_21 : decode cX1_write 21 = .ok (.if_icmp .ge 69, 3) := by decide +kernel
theorem dX1_write_24 : decode cX1_write 24 = .ok (.aload_n 0, 1) := by decide +kernel
theorem dX1_write_25 : decode cX1_write 25 = .ok (.iload_n 3, 1) := by decide +kernel
theorem dX1_write_26 : decode cX1_write 26 = .ok (.invokevirtual 99, 3) := by decide +kernel
theorem dX1_write_29 : decode cX1_write 29 = .ok (.istore 5, 2) := by decide +kernel
theorem dX1_write_31 : decode cX1_write 31 = .ok (.iload 5, 2) := by decide +kernel
theorem dX1_write_33 : decode cX1_write 33 = .ok (.bipush (-6), 2) := by decide +kernel
theorem dX1_write_35 : decode cX1_write 35 = .ok (.if_icmp .ne 4, 3) := by decide +kernel
theorem dX1_write_38 : decode cX1_write 38 = .ok (.return_, 1) := by decide +kernel
theorem dX1_write_39 : decode cX1_write 39 = .ok (.iload 5, 2) := by decide +kernel
theorem dX1_write_41 : decode cX1_write 41 = .ok (.bipush 10, 2) := by decide +kernel
theorem dX1_write_43 : decode cX1_write 43 = .ok (.idiv, 1) := by decide +kernel
theorem dX1_write_44 : decode cX1_write 44 = .ok (.istore 6, 2) := by decide +kernel
theorem dX1_write_46 : decode cX1_write 46 = .ok (.iload 5, 2) := by decide +kernel
theorem dX1_write_48 : decode cX1_write 48 = .ok (.bipush 10, 2) := by decide +kernel
theorem dX1_write_50 : decode cX1_write 50 = .ok (.irem, 1) := by decide +kernel
theorem dX1_write_51 : decode cX1_write 51 = .ok (.istore 7, 2) := by decide +kernel
theorem dX1_write_53 : decode cX1_write 53 = .ok (.aload_n 2, 1) := by decide +kernel
theorem dX1_write_54 : decode cX1_write 54 = .ok (.iload 6, 2) := by decide +kernel
theorem dX1_write_56 : decode cX1_write 56 = .ok (.iload 7, 2) := by decide +kernel
theorem dX1_write_58 : decode cX1_write 58 = .ok (.invokevirtual 102, 3) := by decide +kernel
theorem dX1_write_61 : decode cX1_write 61 = .ok (.pop, 1) := by decide +kernel
theorem dX1_write_62 : decode cX1_write 62 = .ok (.iload_n 3, 1) := by decide +kernel
theorem dX1_write_63 : decode cX1_write 63 = .ok (.aload_n 0, 1) := by decide +kernel
theorem dX1_write_64 : decode cX1_write 64 = .ok (.iload 6, 2) := by decide +kernel
theorem dX1_write_66 : decode cX1_write 66 = .ok (.iload 7, 2) := by decide +kernel
theorem dX1_write_68 : decode cX1_write 68 = .ok (.invokevirtual 106, 3) := by decide +kernel
theorem dX1_write_71 : decode cX1_write 71 = .ok (.iadd, 1) := by decide +kernel
theorem dX1_write_72 : decode cX1_write 72 = .ok (.istore_n 3, 1) := by decide +kernel
theorem dX1_write_73 : decode cX1_write 73 = .ok (.aload_n 0, 1) := by decide +kernel
theorem dX1_write_74 : decode cX1_write 74 = .ok (.getfield 34, 3) := by decide +kernel
theorem dX1_write_77 : decode cX1_write 77 = .ok (.iload 6, 2) := by decide +kernel
theorem dX1_write_79 : decode cX1_write 79 = .ok (.iload 7, 2) := by decide +kernel
theorem dX1_write_81 : decode cX1_write 81 = .ok (.invokestatic 41, 3) := by decide +kernel
theorem dX1_write_84 : decode cX1_write 84 = .ok (.iinc 4 1, 3) := by decide +kernel
theorem dX1_write_87 : decode cX1_write 87 = .ok (.goto (-70), 3) := by decide +kernel
theorem dX1_write_90 : decode cX1_write 90 = .ok (.return_, 1) := by decide +kernel
theorem dX1_firstTrip_0 : decode cX1_firstTrip 0 = .ok (.iconst 0, 1) := by decide +kernel
theorem dX1_firstTrip_1 : decode cX1_firstTrip 1 = .ok (.istore_n 2, 1) := by decide +kernel
theorem dX1_firstTrip_2 : decode cX1_firstTrip 2 = .ok (.iload_n 2, 1) := by decide +kernel
theorem dX1_firstTrip_3 : decode cX1_firstTrip 3 = .ok (.aload_n 0, 1) := by decide +kernel
theorem dX1_firstTrip_4 : decode cX1_firstTrip 4 = .ok (.getfield 9, 3) := by decide +kernel
theorem dX1_firstTrip_7 : decode cX1_firstTrip 7 = .ok (.if_icmp .ge 87, 3) := by decide +kernel
theorem dX1_firstTrip_10 : decode cX1_firstTrip 10 = .ok (.aload_n 0, 1) := by decide +kernel
theorem dX1_firstTrip_11 : decode cX1_firstTrip 11 = .ok (.getfield 34, 3) := by decide +kernel
theorem dX1_firstTrip_14 : decode cX1_firstTrip 14 = .ok (.iload_n 2, 1) := by decide +kernel
theorem dX1_firstTrip_15 : decode cX1_firstTrip 15 = .ok (.invokestatic 57, 3) := by decide +kernel
theorem dX1_firstTrip_18 : decode cX1_firstTrip 18 = .ok (.iconst 1, 1) := by decide +kernel
theorem dX1_firstTrip_19 : decode cX1_firstTrip 19 = .ok (.iadd, 1) := by decide +kernel
theorem dX1_firstTrip_20 : decode cX1_firstTrip 20 = .ok (.istore_n 3, 1) := by decide +kernel
theorem dX1_firstTrip_21 : decode cX1_firstTrip 21 = .ok (.iload_n 1, 1) := by decide +kernel
theorem dX1_firstTrip_22 : decode cX1_firstTrip 22 = .ok (.aload_n 0, 1) := by decide +kernel
theorem dX1_firstTrip_23 : decode cX1_firstTrip 23 = .ok (.getfield 18, 3) := by decide +kernel
theorem dX1_firstTrip_26 : decode cX1_firstTrip 26 = .ok (.iload_n 3, 1) := by decide +kernel
theorem dX1_firstTrip_27 : decode cX1_firstTrip 27 = .ok (.invokestatic 57, 3) := by decide +kernel
theorem dX1_firstTrip_30 : decode cX1_firstTrip 30 = .ok (.if_icmp .le 6, 3) := by decide +kernel
theorem dX1_firstTrip_33 : decode cX1_firstTrip 33 = .ok (.goto 55, 3) := by decide +kernel
theorem dX1_firstTrip_36 : decode cX1_firstTrip 36 = .ok (.iload_n 3, 1) := by decide +kernel
theorem dX1_firstTrip_37 : decode cX1_firstTrip 37 = .ok (.istore 4, 2) := by decide +kernel
theorem dX1_firstTrip_39 : decode cX1_firstTrip 39 = .ok (.iload 4, 2) := by decide +kernel
theorem dX1_firstTrip_41 : decode cX1_firstTrip 41 = .ok (.aload_n 0, 1) := by decide +kernel
theorem dX1_firstTrip_42 : decode cX1_firstTrip 42 = .ok (.getfield 15, 3) := by decide +kernel
theorem dX1_firstTrip_45 : decode cX1_firstTrip 45 = .ok (.if_icmp .gt 43, 3) := by decide +kernel
theorem dX1_firstTrip_48 : decode cX1_firstTrip 48 = .ok (.iload_n 1, 1) := by decide +kernel
theorem dX1_firstTrip_49 : decode cX1_firstTrip 49 = .ok (.aload_n 0, 1) := by decide +kernel
theorem dX1_firstTrip_50 : decode cX1_firstTrip 50 = .ok (.iload_n 2, 1) := by decide +kernel
theorem dX1_firstTrip_51 : decode cX1_firstTrip 51 = .ok (.iload 4, 2) := by decide +kernel
theorem dX1_firstTrip_53 : decode cX1_firstTrip 53 = .ok (.invokevirtual 106, 3) := by decide +kernel
theorem dX1_firstTrip_56 : decode cX1_firstTrip 56 = .ok (.iadd, 1) := by decide +kernel
theorem dX1_firstTrip_57 : decode cX1_firstTrip 57 = .ok (.aload_n 0, 1) := by decide +kernel
theorem dX1_firstTrip_58 : decode cX1_firstTrip 58 = .ok (.getfield 28, 3) := by decide +kernel
theorem dX1_firstTrip_61 : decode cX1_firstTrip 61 = .ok (.aload_n 0, 1) := by decide +kernel
theorem dX1_firstTrip_62 : decode cX1_firstTrip 62 = .ok (.iload_n 2, 1) := by decide +kernel
theorem dX1_firstTrip_63 : decode cX1_firstTrip 63 = .ok (.iload 4, 2) := by decide +kernel
theorem dX1_firstTrip_65 : decode cX1_firstTrip 65 = .ok (.invokevirtual 109, 3) := by decide +kernel
theorem dX1_firstTrip_68 : decode cX1_firstTrip 68 = .ok (.invokestatic 57, 3) := by decide +kernel
theorem dX1_firstTrip_71 : decode cX1_firstTrip 71 = .ok (.if_icmp .gt 11, 3) := by decide +kernel
theorem dX1_firstTrip_74 : decode cX1_firstTrip 74 = .ok (.bipush 10, 2) := by decide +kernel
theorem dX1_firstTrip_76 : decode cX1_firstTrip 76 = .ok (.iload_n 2, 1) := by decide +kernel
theorem dX1_firstTrip_77 : decode cX1_firstTrip 77 = .ok (.imul, 1) := by decide +kernel
theorem dX1_firstTrip_78 : decode cX1_firstTrip 78 = .ok (.iload 4, 2) := by decide +kernel
theorem dX1_firstTrip_80 : decode cX1_firstTrip 80 = .ok (.iadd, 1) := by decide +kernel
theorem dX1_firstTrip_81 : decode cX1_firstTrip 81 = .ok (.ireturn, 1) := by decide +kernel
theorem dX1_firstTrip_82 : decode cX1_firstTrip 82 = .ok (.iinc 4 1, 3) := by decide +kernel
theorem dX1_firstTrip_85 : decode cX1_firstTrip 85 = .ok (.goto (-46), 3) := by decide +kernel
theorem dX1_firstTrip_88 : decode cX1_firstTrip 88 = .ok (.iinc 2 1, 3) := by decide +kernel
theorem dX1_firstTrip_91 : decode cX1_firstTrip 91 = .ok (.goto (-89), 3) := by decide +kernel
theorem dX1_firstTrip_94 : decode cX1_firstTrip 94 = .ok (.bipush (-6), 2) := by decide +kernel
theorem dX1_firstTrip_96 : decode cX1_firstTrip 96 = .ok (.ireturn, 1) := by decide +kernel
theorem dX1_costOf_0 : decode cX1_costOf 0 = .ok (.aload_n 0, 1) := by decide +kernel
theorem dX1_costOf_1 : decode cX1_costOf 1 = .ok (.getfield 25, 3) := by decide +kernel
theorem dX1_costOf_4 : decode cX1_costOf 4 = .ok (.istore_n 3, 1) := by decide +kernel
theorem dX1_costOf_5 : decode cX1_costOf 5 = .ok (.iconst 0, 1) := by decide +kernel
theorem dX1_costOf_6 : decode cX1_costOf 6 = .ok (.istore 4, 2) := by decide +kernel
theorem dX1_costOf_8 : decode cX1_costOf 8 = .ok (.iload 4, 2) := by decide +kernel
theorem dX1_costOf_10 : decode cX1_costOf 10 = .ok (.iconst 3, 1) := by decide +kernel
theorem dX1_costOf_11 : decode cX1_costOf 11 = .ok (.if_icmp .ge 44, 3) := by decide +kernel
theorem dX1_costOf_14 : decode cX1_costOf 14 = .ok (.iload_n 3, 1) := by decide +kernel
theorem dX1_costOf_15 : decode cX1_costOf 15 = .ok (.aload_n 0, 1) := by decide +kernel
theorem dX1_costOf_16 : decode cX1_costOf 16 = .ok (.getfield 22, 3) := by decide +kernel
theorem dX1_costOf_19 : decode cX1_costOf 19 = .ok (.iload 4, 2) := by decide +kernel
theorem dX1_costOf_21 : decode cX1_costOf 21 = .ok (.bipush 9, 2) := by decide +kernel
theorem dX1_costOf_23 : decode cX1_costOf 23 = .ok (.imul, 1) := by decide +kernel
theorem dX1_costOf_24 : decode cX1_costOf 24 = .ok (.iload 4, 2) := by decide +kernel
theorem dX1_costOf_26 : decode cX1_costOf 26 = .ok (.iload_n 1, 1) := by decide +kernel
theorem dX1_costOf_27 : decode cX1_costOf 27 = .ok (.if_icmp .ne 7, 3) := by decide +kernel
theorem dX1_costOf_30 : decode cX1_costOf 30 = .ok (.iload_n 2, 1) := by decide +kernel
theorem dX1_costOf_31 : decode cX1_costOf 31 = .ok (.goto 12, 3) := by decide +kernel
theorem dX1_costOf_34 : decode cX1_costOf 34 = .ok (.aload_n 0, 1) := by decide +kernel
theorem dX1_costOf_35 : decode cX1_costOf 35 = .ok (.getfield 34, 3) := by decide +kernel
theorem dX1_costOf_38 : decode cX1_costOf 38 = .ok (.iload 4, 2) := by decide +kernel
theorem dX1_costOf_40 : decode cX1_costOf 40 = .ok (.invokestatic 57, 3) := by decide +kernel
theorem dX1_costOf_43 : decode cX1_costOf 43 = .ok (.iadd, 1) := by decide +kernel
theorem dX1_costOf_44 : decode cX1_costOf 44 = .ok (.invokestatic 57, 3) := by decide +kernel
theorem dX1_costOf_47 : decode cX1_costOf 47 = .ok (.iadd, 1) := by decide +kernel
theorem dX1_costOf_48 : decode cX1_costOf 48 = .ok (.istore_n 3, 1) := by decide +kernel
theorem dX1_costOf_49 : decode cX1_costOf 49 = .ok (.iinc 4 1, 3) := by decide +kernel
theorem dX1_costOf_52 : decode cX1_costOf 52 = .ok (.goto (-44), 3) := by decide +kernel
theorem dX1_costOf_55 : decode cX1_costOf 55 = .ok (.iload_n 3, 1) := by decide +kernel
theorem dX1_costOf_56 : decode cX1_costOf 56 = .ok (.iload_n 2, 1) := by decide +kernel
theorem dX1_costOf_57 : decode cX1_costOf 57 = .ok (.imul, 1) := by decide +kernel
theorem dX1_costOf_58 : decode cX1_costOf 58 = .ok (.ireturn, 1) := by decide +kernel
theorem dX1_stateAfter_0 : decode cX1_stateAfter 0 = .ok (.iconst 0, 1) := by decide +kernel
theorem dX1_stateAfter_1 : decode cX1_stateAfter 1 = .ok (.istore_n 3, 1) := by decide +kernel
theorem dX1_stateAfter_2 : decode cX1_stateAfter 2 = .ok (.iconst 0, 1) := by decide +kernel
theorem dX1_stateAfter_3 : decode cX1_stateAfter 3 = .ok (.istore 4, 2) := by decide +kernel
theorem dX1_stateAfter_5 : decode cX1_stateAfter 5 = .ok (.iload 4, 2) := by decide +kernel
theorem dX1_stateAfter_7 : decode cX1_stateAfter 7 = .ok (.iconst 3, 1) := by decide +kernel
theorem dX1_stateAfter_8 : decode cX1_stateAfter 8 = .ok (.if_icmp .ge 34, 3) := by decide +kernel
theorem dX1_stateAfter_11 : decode cX1_stateAfter 11 = .ok (.iload_n 3, 1) := by decide +kernel
theorem dX1_stateAfter_12 : decode cX1_stateAfter 12 = .ok (.bipush 9, 2) := by decide +kernel
theorem dX1_stateAfter_14 : decode cX1_stateAfter 14 = .ok (.imul, 1) := by decide +kernel
theorem dX1_stateAfter_15 : decode cX1_stateAfter 15 = .ok (.iload 4, 2) := by decide +kernel
theorem dX1_stateAfter_17 : decode cX1_stateAfter 17 = .ok (.iload_n 1, 1) := by decide +kernel
theorem dX1_stateAfter_18 : decode cX1_stateAfter 18 = .ok (.if_icmp .ne 7, 3) := by decide +kernel
theorem dX1_stateAfter_21 : decode cX1_stateAfter 21 = .ok (.iload_n 2, 1) := by decide +kernel
theorem dX1_stateAfter_22 : decode cX1_stateAfter 22 = .ok (.goto 12, 3) := by decide +kernel
theorem dX1_stateAfter_25 : decode cX1_stateAfter 25 = .ok (.aload_n 0, 1) := by decide +kernel
theorem dX1_stateAfter_26 : decode cX1_stateAfter 26 = .ok (.getfield 34, 3) := by decide +kernel
theorem dX1_stateAfter_29 : decode cX1_stateAfter 29 = .ok (.iload 4, 2) := by decide +kernel
theorem dX1_stateAfter_31 : decode cX1_stateAfter 31 = .ok (.invokestatic 57, 3) := by decide +kernel
theorem dX1_stateAfter_34 : decode cX1_stateAfter 34 = .ok (.iadd, 1) := by decide +kernel
theorem dX1_stateAfter_35 : decode cX1_stateAfter 35 = .ok (.istore_n 3, 1) := by decide +kernel
theorem dX1_stateAfter_36 : decode cX1_stateAfter 36 = .ok (.iinc 4 1, 3) := by decide +kernel
theorem dX1_stateAfter_39 : decode cX1_stateAfter 39 = .ok (.goto (-34), 3) := by decide +kernel
theorem dX1_stateAfter_42 : decode cX1_stateAfter 42 = .ok (.iload_n 3, 1) := by decide +kernel
theorem dX1_stateAfter_43 : decode cX1_stateAfter 43 = .ok (.ireturn, 1) := by decide +kernel
theorem dX2_init_0 : decode cX2_init 0 = .ok (.aload_n 0, 1) := by decide +kernel
theorem dX2_init_1 : decode cX2_init 1 = .ok (.invokespecial 3, 3) := by decide +kernel
theorem dX2_init_4 : decode cX2_init 4 = .ok (.aload_n 0, 1) := by decide +kernel
theorem dX2_init_5 : decode cX2_init 5 = .ok (.bipush 30, 2) := by decide +kernel
theorem dX2_init_7 : decode cX2_init 7 = .ok (.newarray .int, 2) := by decide +kernel
theorem dX2_init_9 : decode cX2_init 9 = .ok (.putfield 9, 3) := by decide +kernel
theorem dX2_init_12 : decode cX2_init 12 = .ok (.aload_n 0, 1) := by decide +kernel
theorem dX2_init_13 : decode cX2_init 13 = .ok (.bipush 30, 2) := by decide +kernel
theorem dX2_init_15 : decode cX2_init 15 = .ok (.newarray .int, 2) := by decide +kernel
theorem dX2_init_17 : decode cX2_init 17 = .ok (.putfield 15, 3) := by decide +kernel
theorem dX2_init_20 : decode cX2_init 20 = .ok (.aload_n 0, 1) := by decide +kernel
theorem dX2_init_21 : decode cX2_init 21 = .ok (.iconst 0, 1) := by decide +kernel
theorem dX2_init_22 : decode cX2_init 22 = .ok (.putfield 18, 3) := by decide +kernel
theorem dX2_init_25 : decode cX2_init 25 = .ok (.return_, 1) := by decide +kernel
theorem dX2_has_0 : decode cX2_has 0 = .ok (.iload_n 1, 1) := by decide +kernel
theorem dX2_has_1 : decode cX2_has 1 = .ok (.ifCond .lt 15, 3) := by decide +kernel
theorem dX2_has_4 : decode cX2_has 4 = .ok (.iload_n 1, 1) := by decide +kernel
theorem dX2_has_5 : decode cX2_has 5 = .ok (.aload_n 0, 1) := by decide +kernel
theorem dX2_has_6 : decode cX2_has 6 = .ok (.getfield 18, 3) := by decide +kernel
theorem dX2_has_9 : decode cX2_has 9 = .ok (.if_icmp .ge 7, 3) := by decide +kernel
theorem dX2_has_12 : decode cX2_has 12 = .ok (.iconst 1, 1) := by decide +kernel
theorem dX2_has_13 : decode cX2_has 13 = .ok (.goto 4, 3) := by decide +kernel
theorem dX2_has_16 : decode cX2_has 16 = .ok (.iconst 0, 1) := by decide +kernel
theorem dX2_has_17 : decode cX2_has 17 = .ok (.ireturn, 1) := by decide +kernel
theorem dX2_rayOf_0 : decode cX2_rayOf 0 = .ok (.aload_n 0, 1) := by decide +kernel
theorem dX2_rayOf_1 : decode cX2_rayOf 1 = .ok (.iload_n 1, 1) := by decide +kernel
theorem dX2_rayOf_2 : decode cX2_rayOf 2 = .ok (.invokevirtual 22, 3) := by decide +kernel
theorem dX2_rayOf_5 : decode cX2_rayOf 5 = .ok (.ifCond .eq 14, 3) := by decide +kernel
theorem dX2_rayOf_8 : decode cX2_rayOf 8 = .ok (.aload_n 0, 1) := by decide +kernel
theorem dX2_rayOf_9 : decode cX2_rayOf 9 = .ok (.getfield 9, 3) := by decide +kernel
theorem dX2_rayOf_12 : decode cX2_rayOf 12 = .ok (.iload_n 1, 1) := by decide +kernel
theorem dX2_rayOf_13 : decode cX2_rayOf 13 = .ok (.invokestatic 26, 3) := by decide +kernel
theorem dX2_rayOf_16 : decode cX2_rayOf 16 = .ok (.goto 4, 3) := by decide +kernel
theorem dX2_rayOf_19 : decode cX2_rayOf 19 = .ok (.iconst 0, 1) := by decide +kernel
theorem dX2_rayOf_20 : decode cX2_rayOf 20 = .ok (.ireturn, 1) := by decide +kernel
theorem dX2_stepsOf_0 : decode cX2_stepsOf 0 = .ok (.aload_n 0, 1) := by decide +kernel
theorem dX2_stepsOf_1 : decode cX2_stepsOf 1 = .ok (.iload_n 1, 1) := by decide +kernel
theorem dX2_stepsOf_2 : decode cX2_stepsOf 2 = .ok (.invokevirtual 22, 3) := by decide +kernel
theorem dX2_stepsOf_5 : decode cX2_stepsOf 5 = .ok (.ifCond .eq 14, 3) := by decide +kernel
theorem dX2_stepsOf_8 : decode cX2_stepsOf 8 = .ok (.aload_n 0, 1) := by decide +kernel
theorem dX2_stepsOf_9 : decode cX2_stepsOf 9 = .ok (.getfield 15, 3) := by decide +kernel
theorem dX2_stepsOf_12 : decode cX2_stepsOf 12 = .ok (.iload_n 1, 1) := by decide +kernel
theorem dX2_stepsOf_13 : decode cX2_stepsOf 13 = .ok (.invokestatic 26, 3) := by decide +kernel
theorem dX2_stepsOf_16 : decode cX2_stepsOf 16 = .ok (.goto 4, 3) := by decide +kernel
theorem dX2_stepsOf_19 : decode cX2_stepsOf 19 = .ok (.iconst 0, 1) := by decide +kernel
theorem dX2_stepsOf_20 : decode cX2_stepsOf 20 = .ok (.ireturn, 1) := by decide +kernel
theorem dX2_add_0 : decode cX2_add 0 = .ok (.aload_n 0, 1) := by decide +kernel
theorem dX2_add_1 : decode cX2_add 1 = .ok (.getfield 18, 3) := by decide +kernel
theorem dX2_add_4 : decode cX2_add 4 = .ok (.bipush 30, 2) := by decide +kernel
theorem dX2_add_6 : decode cX2_add 6 = .ok (.if_icmp .lt 5, 3) := by decide +kernel
theorem dX2_add_9 : decode cX2_add 9 = .ok (.iconst 0, 1) := by decide +kernel
theorem dX2_add_10 : decode cX2_add 10 = .ok (.ireturn, 1) := by decide +kernel
theorem dX2_add_11 : decode cX2_add 11 = .ok (.aload_n 0, 1) := by decide +kernel
theorem dX2_add_12 : decode cX2_add 12 = .ok (.getfield 9, 3) := by decide +kernel
theorem dX2_add_15 : decode cX2_add 15 = .ok (.aload_n 0, 1) := by decide +kernel
theorem dX2_add_16 : decode cX2_add 16 = .ok (.getfield 18, 3) := by decide +kernel
theorem dX2_add_19 : decode cX2_add 19 = .ok (.iload_n 1, 1) := by decide +kernel
theorem dX2_add_20 : decode cX2_add 20 = .ok (.invokestatic 30, 3) := by decide +kernel
theorem dX2_add_23 : decode cX2_add 23 = .ok (.aload_n 0, 1) := by decide +kernel
theorem dX2_add_24 : decode cX2_add 24 = .ok (.getfield 15, 3) := by decide +kernel
theorem dX2_add_27 : decode cX2_add 27 = .ok (.aload_n 0, 1) := by decide +kernel
theorem dX2_add_28 : decode cX2_add 28 = .ok (.getfield 18, 3) := by decide +kernel
theorem dX2_add_31 : decode cX2_add 31 = .ok (.iload_n 2, 1) := by decide +kernel
theorem dX2_add_32 : decode cX2_add 32 = .ok (.invokestatic 30, 3) := by decide +kernel
theorem dX2_add_35 : decode cX2_add 35 = .ok (.aload_n 0, 1) := by decide +kernel
theorem dX2_add_36 : decode cX2_add 36 = .ok (.dup, 1) := by decide +kernel
theorem dX2_add_37 : decode cX2_add 37 = .ok (.getfield 18, 3) := by decide +kernel
theorem dX2_add_40 : decode cX2_add 40 = .ok (.iconst 1, 1) := by decide +kernel
theorem dX2_add_41 : decode cX2_add 41 = .ok (.iadd, 1) := by decide +kernel
theorem dX2_add_42 : decode cX2_add 42 = .ok (.putfield 18, 3) := by decide +kernel
theorem dX2_add_45 : decode cX2_add 45 = .ok (.iconst 1, 1) := by decide +kernel
theorem dX2_add_46 : decode cX2_add 46 = .ok (.ireturn, 1) := by decide +kernel
theorem dX2_removeLast_0 : decode cX2_removeLast 0 = .ok (.aload_n 0, 1) := by decide +kernel
theorem dX2_removeLast_1 : decode cX2_removeLast 1 = .ok (.getfield 18, 3) := by decide +kernel
theorem dX2_removeLast_4 : decode cX2_removeLast 4 = .ok (.iconst 1, 1) := by decide +kernel
theorem dX2_removeLast_5 : decode cX2_removeLast 5 = .ok (.if_icmp .ge 5, 3) := by decide +kernel
theorem dX2_removeLast_8 : decode cX2_removeLast 8 = .ok (.iconst 0, 1) := by decide +kernel
theorem dX2_removeLast_9 : decode cX2_removeLast 9 = .ok (.ireturn, 1) := by decide +kernel
theorem dX2_removeLast_10 : decode cX2_removeLast 10 = .ok (.aload_n 0, 1) := by decide +kernel
theorem dX2_removeLast_11 : decode cX2_removeLast 11 = .ok (.dup, 1) := by decide +kernel
theorem dX2_removeLast_12 : decode cX2_removeLast 12 = .ok (.getfield 18, 3) := by decide +kernel
theorem dX2_removeLast_15 : decode cX2_removeLast 15 = .ok (.iconst 1, 1) := by decide +kernel
theorem dX2_removeLast_16 : decode cX2_removeLast 16 = .ok (.isub, 1) := by decide +kernel
theorem dX2_removeLast_17 : decode cX2_removeLast 17 = .ok (.putfield 18, 3) := by decide +kernel
theorem dX2_removeLast_20 : decode cX2_removeLast 20 = .ok (.iconst 1, 1) := by decide +kernel
theorem dX2_removeLast_21 : decode cX2_removeLast 21 = .ok (.ireturn, 1) := by decide +kernel
theorem dX2_empty_0 : decode cX2_empty 0 = .ok (.aload_n 0, 1) := by decide +kernel
theorem dX2_empty_1 : decode cX2_empty 1 = .ok (.iconst 0, 1) := by decide +kernel
theorem dX2_empty_2 : decode cX2_empty 2 = .ok (.putfield 18, 3) := by decide +kernel
theorem dX2_empty_5 : decode cX2_empty 5 = .ok (.return_, 1) := by decide +kernel
theorem dX2_copy_0 : decode cX2_copy 0 = .ok (.aload_n 0, 1) := by decide +kernel
theorem dX2_copy_1 : decode cX2_copy 1 = .ok (.iconst 0, 1) := by decide +kernel
theorem dX2_copy_2 : decode cX2_copy 2 = .ok (.putfield 18, 3) := by decide +kernel
theorem dX2_copy_5 : decode cX2_copy 5 = .ok (.iconst 0, 1) := by decide +kernel
theorem dX2_copy_6 : decode cX2_copy 6 = .ok (.istore_n 2, 1) := by decide +kernel
theorem dX2_copy_7 : decode cX2_copy 7 = .ok (.iload_n 2, 1) := by decide +kernel
theorem dX2_copy_8 : decode cX2_copy 8 = .ok (.aload_n 1, 1) := by decide +kernel
theorem dX2_copy_9 : decode cX2_copy 9 = .ok (.getfield 18, 3) := by decide +kernel
theorem dX2_copy_12 : decode cX2_copy 12 = .ok (.if_icmp .ge 24, 3) := by decide +kernel
theorem dX2_copy_15 : decode cX2_copy 15 = .ok (.aload_n 0, 1) := by decide +kernel
theorem dX2_copy_16 : decode cX2_copy 16 = .ok (.aload_n 1, 1) := by decide +kernel
theorem dX2_copy_17 : decode cX2_copy 17 = .ok (.iload_n 2, 1) := by decide +kernel
theorem dX2_copy_18 : decode cX2_copy 18 = .ok (.invokevirtual 34, 3) := by decide +kernel
theorem dX2_copy_21 : decode cX2_copy 21 = .ok (.aload_n 1, 1) := by decide +kernel
theorem dX2_copy_22 : decode cX2_copy 22 = .ok (.iload_n 2, 1) := by decide +kernel
theorem dX2_copy_23 : decode cX2_copy 23 = .ok (.invokevirtual 38, 3) := by decide +kernel
theorem dX2_copy_26 : decode cX2_copy 26 = .ok (.invokevirtual 41, 3) := by decide +kernel
theorem dX2_copy_29 : decode cX2_copy 29 = .ok (.pop, 1) := by decide +kernel
theorem dX2_copy_30 : decode cX2_copy 30 = .ok (.iinc 2 1, 3) := by decide +kernel
theorem dX2_copy_33 : decode cX2_copy 33 = .ok (.goto (-26), 3) := by decide +kernel
theorem dX2_copy_36 : decode cX2_copy 36 = .ok (.return_, 1) := by decide +kernel
theorem dX2_isFor_0 : decode cX2_isFor 0 = .ok (.iload_n 0, 1) := by decide +kernel
theorem dX2_isFor_1 : decode cX2_isFor 1 = .ok (.iconst (-1), 1) := by decide +kernel
theorem dX2_isFor_2 : decode cX2_isFor 2 = .ok (.if_icmp .eq 10, 3) := by decide +kernel
theorem dX2_isFor_5 : decode cX2_isFor 5 = .ok (.iload_n 1, 1) := by decide +kernel
theorem dX2_isFor_6 : decode cX2_isFor 6 = .ok (.iconst 2, 1) := by decide +kernel
theorem dX2_isFor_7 : decode cX2_isFor 7 = .ok (.irem, 1) := by decide +kernel
theorem dX2_isFor_8 : decode cX2_isFor 8 = .ok (.iload_n 0, 1) := by decide +kernel
theorem dX2_isFor_9 : decode cX2_isFor 9 = .ok (.if_icmp .ne 7, 3) := by decide +kernel
theorem dX2_isFor_12 : decode cX2_isFor 12 = .ok (.iconst 1, 1) := by decide +kernel
theorem dX2_isFor_13 : decode cX2_isFor 13 = .ok (.goto 4, 3) := by decide +kernel
theorem dX2_isFor_16 : decode cX2_isFor 16 = .ok (.iconst 0, 1) := by decide +kernel
theorem dX2_isFor_17 : decode cX2_isFor 17 = .ok (.ireturn, 1) := by decide +kernel
theorem dX2_firstTo_0 : decode cX2_firstTo 0 = .ok (.iconst 0, 1) := by decide +kernel
theorem dX2_firstTo_1 : decode cX2_firstTo 1 = .ok (.istore 4, 2) := by decide +kernel
theorem dX2_firstTo_3 : decode cX2_firstTo 3 = .ok (.iload 4, 2) := by decide +kernel
theorem dX2_firstTo_5 : decode cX2_firstTo 5 = .ok (.aload_n 0, 1) := by decide +kernel
theorem dX2_firstTo_6 : decode cX2_firstTo 6 = .ok (.getfield 18, 3) := by decide +kernel
theorem dX2_firstTo_9 : decode cX2_firstTo 9 = .ok (.if_icmp .ge 41, 3) := by decide +kernel
theorem dX2_firstTo_12 : decode cX2_firstTo 12 = .ok (.iload_n 3, 1) := by decide +kernel
theorem dX2_firstTo_13 : decode cX2_firstTo 13 = .ok (.iload 4, 2) := by decide +kernel
theorem dX2_firstTo_15 : decode cX2_firstTo 15 = .ok (.invokestatic 45, 3) := by decide +kernel
theorem dX2_firstTo_18 : decode cX2_firstTo 18 = .ok (.ifCond .eq 26, 3) := by decide +kernel
theorem dX2_firstTo_21 : decode cX2_firstTo 21 = .ok (.aload_n 0, 1) := by decide +kernel
theorem dX2_firstTo_22 : decode cX2_firstTo 22 = .ok (.iload 4, 2) := by decide +kernel
theorem dX2_firstTo_24 : decode cX2_firstTo 24 = .ok (.invokevirtual 34, 3) := by decide +kernel
theorem dX2_firstTo_27 : decode cX2_firstTo 27 = .ok (.iload_n 1, 1) := by decide +kernel
theorem dX2_firstTo_28 : decode cX2_firstTo 28 = .ok (.if_icmp .ne 16, 3) := by decide +kernel
theorem dX2_firstTo_31 : decode cX2_firstTo 31 = .ok (.aload_n 0, 1) := by decide +kernel
theorem dX2_firstTo_32 : decode cX2_firstTo 32 = .ok (.iload 4, 2) := by decide +kernel
theorem dX2_firstTo_34 : decode cX2_firstTo 34 = .ok (.invokevirtual 38, 3) := by decide +kernel
theorem dX2_firstTo_37 : decode cX2_firstTo 37 = .ok (.iload_n 2, 1) := by decide +kernel
theorem dX2_firstTo_38 : decode cX2_firstTo 38 = .ok (.if_icmp .lt 6, 3) := by decide +kernel
theorem dX2_firstTo_41 : decode cX2_firstTo 41 = .ok (.iload 4, 2) := by decide +kernel
theorem dX2_firstTo_43 : decode cX2_firstTo 43 = .ok (.ireturn, 1) := by decide +kernel
theorem dX2_firstTo_44 : decode cX2_firstTo 44 = .ok (.iinc 4 1, 3) := by decide +kernel
theorem dX2_firstTo_47 : decode cX2_firstTo 47 = .ok (.goto (-44), 3) := by decide +kernel
theorem dX2_firstTo_50 : decode cX2_firstTo 50 = .ok (.iconst (-1), 1) := by decide +kernel
theorem dX2_firstTo_51 : decode cX2_firstTo 51 = .ok (.ireturn, 1) := by decide +kernel
theorem dX2_stepsAhead_0 : decode cX2_stepsAhead 0 = .ok (.iconst 0, 1) := by decide +kernel
theorem dX2_stepsAhead_1 : decode cX2_stepsAhead 1 = .ok (.istore_n 3, 1) := by decide +kernel
theorem dX2_stepsAhead_2 : decode cX2_stepsAhead 2 = .ok (.iconst 0, 1) := by decide +kernel
theorem dX2_stepsAhead_3 : decode cX2_stepsAhead 3 = .ok (.istore 4, 2) := by decide +kernel
theorem dX2_stepsAhead_5 : decode cX2_stepsAhead 5 = .ok (.iload 4, 2) := by decide +kernel
theorem dX2_stepsAhead_7 : decode cX2_stepsAhead 7 = .ok (.iload_n 1, 1) := by decide +kernel
theorem dX2_stepsAhead_8 : decode cX2_stepsAhead 8 = .ok (.if_icmp .ge 36, 3) := by decide +kernel
theorem dX2_stepsAhead_11 : decode cX2_stepsAhead 11 = .ok (.iload 4, 2) := by decide +kernel
theorem dX2_stepsAhead_13 : decode cX2_stepsAhead 13 = .ok (.aload_n 0, 1) := by decide +kernel
theorem dX2_stepsAhead_14 : decode cX2_stepsAhead 14 = .ok (.getfield 18, 3) := by decide +kernel
theorem dX2_stepsAhead_17 : decode cX2_stepsAhead 17 = .ok (.if_icmp .ge 27, 3) := by decide +kernel
theorem dX2_stepsAhead_20 : decode cX2_stepsAhead 20 = .ok (.iload_n 2, 1) := by decide +kernel
theorem dX2_stepsAhead_21 : decode cX2_stepsAhead 21 = .ok (.iload 4, 2) := by decide +kernel
theorem dX2_stepsAhead_23 : decode cX2_stepsAhead 23 = .ok (.invokestatic 45, 3) := by decide +kernel
theorem dX2_stepsAhead_26 : decode cX2_stepsAhead 26 = .ok (.ifCond .eq 12, 3) := by decide +kernel
theorem dX2_stepsAhead_29 : decode cX2_stepsAhead 29 = .ok (.iload_n 3, 1) := by decide +kernel
theorem dX2_stepsAhead_30 : decode cX2_stepsAhead 30 = .ok (.aload_n 0, 1) := by decide +kernel
theorem dX2_stepsAhead_31 : decode cX2_stepsAhead 31 = .ok (.iload 4, 2) := by decide +kernel
theorem dX2_stepsAhead_33 : decode cX2_stepsAhead 33 = .ok (.invokevirtual 38, 3) := by decide +kernel
theorem dX2_stepsAhead_36 : decode cX2_stepsAhead 36 = .ok (.iadd, 1) := by decide +kernel
theorem dX2_stepsAhead_37 : decode cX2_stepsAhead 37 = .ok (.istore_n 3, 1) := by decide +kernel
theorem dX2_stepsAhead_38 : decode cX2_stepsAhead 38 = .ok (.iinc 4 1, 3) := by decide +kernel
theorem dX2_stepsAhead_41 : decode cX2_stepsAhead 41 = .ok (.goto (-36), 3) := by decide +kernel
theorem dX2_stepsAhead_44 : decode cX2_stepsAhead 44 = .ok (.iload_n 3, 1) := by decide +kernel
theorem dX2_stepsAhead_45 : decode cX2_stepsAhead 45 = .ok (.ireturn, 1) := by decide +kernel
theorem dX2_farthest_0 : decode cX2_farthest 0 = .ok (.iconst 0, 1) := by decide +kernel
theorem dX2_farthest_1 : decode cX2_farthest 1 = .ok (.istore_n 3, 1) := by decide +kernel
theorem dX2_farthest_2 : decode cX2_farthest 2 = .ok (.iconst 0, 1) := by decide +kernel
theorem dX2_farthest_3 : decode cX2_farthest 3 = .ok (.istore 4, 2) := by decide +kernel
theorem dX2_farthest_5 : decode cX2_farthest 5 = .ok (.iload 4, 2) := by decide +kernel
theorem dX2_farthest_7 : decode cX2_farthest 7 = .ok (.iload_n 2, 1) := by decide +kernel
theorem dX2_farthest_8 : decode cX2_farthest 8 = .ok (.if_icmp .ge 39, 3) := by decide +kernel
theorem dX2_farthest_11 : decode cX2_farthest 11 = .ok (.iload 4, 2) := by decide +kernel
theorem dX2_farthest_13 : decode cX2_farthest 13 = .ok (.aload_n 0, 1) := by decide +kernel
theorem dX2_farthest_14 : decode cX2_farthest 14 = .ok (.getfield 18, 3) := by decide +kernel
theorem dX2_farthest_17 : decode cX2_farthest 17 = .ok (.if_icmp .ge 30, 3) := by decide +kernel
theorem dX2_farthest_20 : decode cX2_farthest 20 = .ok (.aload_n 0, 1) := by decide +kernel
theorem dX2_farthest_21 : decode cX2_farthest 21 = .ok (.iload 4, 2) := by decide +kernel
theorem dX2_farthest_23 : decode cX2_farthest 23 = .ok (.invokevirtual 34, 3) := by decide +kernel
theorem dX2_farthest_26 : decode cX2_farthest 26 = .ok (.iload_n 1, 1) := by decide +kernel
theorem dX2_farthest_27 : decode cX2_farthest 27 = .ok (.if_icmp .ne 14, 3) := by decide +kernel
theorem dX2_farthest_30 : decode cX2_farthest 30 = .ok (.iload_n 3, 1) := by decide +kernel
theorem dX2_farthest_31 : decode cX2_farthest 31 = .ok (.aload_n 0, 1) := by decide +kernel
theorem dX2_farthest_32 : decode cX2_farthest 32 = .ok (.iload 4, 2) := by decide +kernel
theorem dX2_farthest_34 : decode cX2_farthest 34 = .ok (.invokevirtual 38, 3) := by decide +kernel
theorem dX2_farthest_37 : decode cX2_farthest 37 = .ok (.invokestatic 48, 3) := by decide +kernel
theorem dX2_farthest_40 : decode cX2_farthest 40 = .ok (.istore_n 3, 1) := by decide +kernel
theorem dX2_farthest_41 : decode cX2_farthest 41 = .ok (.iinc 4 1, 3) := by decide +kernel
theorem dX2_farthest_44 : decode cX2_farthest 44 = .ok (.goto (-39), 3) := by decide +kernel
theorem dX2_farthest_47 : decode cX2_farthest 47 = .ok (.iload_n 3, 1) := by decide +kernel
theorem dX2_farthest_48 : decode cX2_farthest 48 = .ok (.ireturn, 1) := by decide +kernel
