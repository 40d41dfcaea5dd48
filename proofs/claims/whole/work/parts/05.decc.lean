theorem dX4_init_0 : decode cX4_init 0 = .ok (.aload_n 0, 1) := by decide +kernel
theorem dX4_init_1 : decode cX4_init 1 = .ok (.invokespecial 1, 3) := by decide +kernel
theorem dX4_init_4 : decode cX4_init 4 = .ok (.aload_n 0, 1) := by decide +kernel
theorem dX4_init_5 : decode cX4_init 5 = .ok (.iconst 2, 1) := by decide +kernel
theorem dX4_init_6 : decode cX4_init 6 = .ok (.putfield 7, 3) := by decide +kernel
theorem dX4_init_9 : decode cX4_init 9 = .ok (.aload_n 0, 1) := by decide +kernel
theorem dX4_init_10 : decode cX4_init 10 = .ok (.iconst 5, 1) := by decide +kernel
theorem dX4_init_11 : decode cX4_init 11 = .ok (.putfield 13, 3) := by decide +kernel
theorem dX4_init_14 : decode cX4_init 14 = .ok (.aload_n 0, 1) := by decide +kernel
theorem dX4_init_15 : decode cX4_init 15 = .ok (.iconst 1, 1) := by decide +kernel
theorem dX4_init_16 : decode cX4_init 16 = .ok (.putfield 16, 3) := by decide +kernel
theorem dX4_init_19 : decode cX4_init 19 = .ok (.aload_n 0, 1) := by decide +kernel
theorem dX4_init_20 : decode cX4_init 20 = .ok (.iconst 1, 1) := by decide +kernel
theorem dX4_init_21 : decode cX4_init 21 = .ok (.putfield 19, 3) := by decide +kernel
theorem dX4_init_24 : decode cX4_init 24 = .ok (.aload_n 0, 1) := by decide +kernel
theorem dX4_init_25 : decode cX4_init 25 = .ok (.bipush 27, 2) := by decide +kernel
theorem dX4_init_27 : decode cX4_init 27 = .ok (.newarray .int, 2) := by decide +kernel
theorem dX4_init_29 : decode cX4_init 29 = .ok (.putfield 22, 3) := by decide +kernel
theorem dX4_init_32 : decode cX4_init 32 = .ok (.aload_n 0, 1) := by decide +kernel
theorem dX4_init_33 : decode cX4_init 33 = .ok (.bipush 30, 2) := by decide +kernel
theorem dX4_init_35 : decode cX4_init 35 = .ok (.newarray .int, 2) := by decide +kernel
theorem dX4_init_37 : decode cX4_init 37 = .ok (.putfield 26, 3) := by decide +kernel
theorem dX4_init_40 : decode cX4_init 40 = .ok (.aload_n 0, 1) := by decide +kernel
theorem dX4_init_41 : decode cX4_init 41 = .ok (.bipush 30, 2) := by decide +kernel
theorem dX4_init_43 : decode cX4_init 43 = .ok (.newarray .int, 2) := by decide +kernel
theorem dX4_init_45 : decode cX4_init 45 = .ok (.putfield 29, 3) := by decide +kernel
theorem dX4_init_48 : decode cX4_init 48 = .ok (.aload_n 0, 1) := by decide +kernel
theorem dX4_init_49 : decode cX4_init 49 = .ok (.sipush 729, 3) := by decide +kernel
theorem dX4_init_52 : decode cX4_init 52 = .ok (.newarray .int, 2) := by decide +kernel
theorem dX4_init_54 : decode cX4_init 54 = .ok (.putfield 32, 3) := by decide +kernel
theorem dX4_init_57 : decode cX4_init 57 = .ok (.aload_n 0, 1) := by decide +kernel
theorem dX4_init_58 : decode cX4_init 58 = .ok (.sipush 729, 3) := by decide +kernel
theorem dX4_init_61 : decode cX4_init 61 = .ok (.newarray .int, 2) := by decide +kernel
theorem dX4_init_63 : decode cX4_init 63 = .ok (.putfield 35, 3) := by decide +kernel
theorem dX4_init_66 : decode cX4_init 66 = .ok (.aload_n 0, 1) := by decide +kernel
theorem dX4_init_67 : decode cX4_init 67 = .ok (.bipush 30, 2) := by decide +kernel
theorem dX4_init_69 : decode cX4_init 69 = .ok (.newarray .int, 2) := by decide +kernel
theorem dX4_init_71 : decode cX4_init 71 = .ok (.putfield 38, 3) := by decide +kernel
theorem dX4_init_74 : decode cX4_init 74 = .ok (.aload_n 0, 1) := by decide +kernel
theorem dX4_init_75 : decode cX4_init 75 = .ok (.invokevirtual 41, 3) := by decide +kernel
theorem dX4_init_78 : decode cX4_init 78 = .ok (.return_, 1) := by decide +kernel
theorem dX4_in_0 : decode cX4_in 0 = .ok (.iload_n 0, 1) := by decide +kernel
theorem dX4_in_1 : decode cX4_in 1 = .ok (.iload_n 1, 1) := by decide +kernel
theorem dX4_in_2 : decode cX4_in 2 = .ok (.if_icmp .lt 12, 3) := by decide +kernel
theorem dX4_in_5 : decode cX4_in 5 = .ok (.iload_n 0, 1) := by decide +kernel
theorem dX4_in_6 : decode cX4_in 6 = .ok (.iload_n 2, 1) := by decide +kernel
theorem dX4_in_7 : decode cX4_in 7 = .ok (.if_icmp .gt 7, 3) := by decide +kernel
theorem dX4_in_10 : decode cX4_in 10 = .ok (.iconst 1, 1) := by decide +kernel
theorem dX4_in_11 : decode cX4_in 11 = .ok (.goto 4, 3) := by decide +kernel
theorem dX4_in_14 : decode cX4_in 14 = .ok (.iconst 0, 1) := by decide +kernel
theorem dX4_in_15 : decode cX4_in 15 = .ok (.ireturn, 1) := by decide +kernel
theorem dX4_begin_0 : decode cX4_begin 0 = .ok (.aload_n 0, 1) := by decide +kernel
theorem dX4_begin_1 : decode cX4_begin 1 = .ok (.iconst 0, 1) := by decide +kernel
theorem dX4_begin_2 : decode cX4_begin 2 = .ok (.putfield 44, 3) := by decide +kernel
theorem dX4_begin_5 : decode cX4_begin 5 = .ok (.iconst 0, 1) := by decide +kernel
theorem dX4_begin_6 : decode cX4_begin 6 = .ok (.istore_n 1, 1) := by decide +kernel
theorem dX4_begin_7 : decode cX4_begin 7 = .ok (.iload_n 1, 1) := by decide +kernel
theorem dX4_begin_8 : decode cX4_begin 8 = .ok (.bipush 27, 2) := by decide +kernel
theorem dX4_begin_10 : decode cX4_begin 10 = .ok (.if_icmp .ge 16, 3) := by decide +kernel
theorem dX4_begin_13 : decode cX4_begin 13 = .ok (.aload_n 0, 1) := by decide +kernel
theorem dX4_begin_14 : decode cX4_begin 14 = .ok (.getfield 22, 3) := by decide +kernel
theorem dX4_begin_17 : decode cX4_begin 17 = .ok (.iload_n 1, 1) := by decide +kernel
theorem dX4_begin_18 : decode cX4_begin 18 = .ok (.iconst 1, 1) := by decide +kernel
theorem dX4_begin_19 : decode cX4_begin 19 = .ok (.iastore, 1) := by decide +kernel
theorem dX4_begin_20 : decode cX4_begin 20 = .ok (.iinc 1 1, 3) := by decide +kernel
theorem dX4_begin_23 : decode cX4_begin 23 = .ok (.goto (-16), 3) := by decide +kernel
theorem dX4_begin_26 : decode cX4_begin 26 = .ok (.return_, 1) := by decide +kernel
theorem dX4_isPlace_0 : decode cX4_isPlace 0 = .ok (.iload_n 1, 1) := by decide +kernel
theorem dX4_isPlace_1 : decode cX4_isPlace 1 = .ok (.iconst 0, 1) := by decide +kernel
theorem dX4_isPlace_2 : decode cX4_isPlace 2 = .ok (.aload_n 0, 1) := by decide +kernel
theorem dX4_isPlace_3 : decode cX4_isPlace 3 = .ok (.getfield 7, 3) := by decide +kernel
theorem dX4_isPlace_6 : decode cX4_isPlace 6 = .ok (.iconst 1, 1) := by decide +kernel
theorem dX4_isPlace_7 : decode cX4_isPlace 7 = .ok (.isub, 1) := by decide +kernel
theorem dX4_isPlace_8 : decode cX4_isPlace 8 = .ok (.invokestatic 47, 3) := by decide +kernel
theorem dX4_isPlace_11 : decode cX4_isPlace 11 = .ok (.ifCond .eq 19, 3) := by decide +kernel
theorem dX4_isPlace_14 : decode cX4_isPlace 14 = .ok (.iload_n 2, 1) := by decide +kernel
theorem dX4_isPlace_15 : decode cX4_isPlace 15 = .ok (.iconst 1, 1) := by decide +kernel
theorem dX4_isPlace_16 : decode cX4_isPlace 16 = .ok (.aload_n 0, 1) := by decide +kernel
theorem dX4_isPlace_17 : decode cX4_isPlace 17 = .ok (.getfield 13, 3) := by decide +kernel
theorem dX4_isPlace_20 : decode cX4_isPlace 20 = .ok (.invokestatic 47, 3) := by decide +kernel
theorem dX4_isPlace_23 : decode cX4_isPlace 23 = .ok (.ifCond .eq 7, 3) := by decide +kernel
theorem dX4_isPlace_26 : decode cX4_isPlace 26 = .ok (.iconst 1, 1) := by decide +kernel
theorem dX4_isPlace_27 : decode cX4_isPlace 27 = .ok (.goto 4, 3) := by decide +kernel
theorem dX4_isPlace_30 : decode cX4_isPlace 30 = .ok (.iconst 0, 1) := by decide +kernel
theorem dX4_isPlace_31 : decode cX4_isPlace 31 = .ok (.ireturn, 1) := by decide +kernel
theorem dX4_rays_0 : decode cX4_rays 0 = .ok (.iload_n 1, 1) := by decide +kernel
theorem dX4_rays_1 : decode cX4_rays 1 = .ok (.iconst 2, 1) := by decide +kernel
theorem dX4_rays_2 : decode cX4_rays 2 = .ok (.iconst 3, 1) := by decide +kernel
theorem dX4_rays_3 : decode cX4_rays 3 = .ok (.invokestatic 47, 3) := by decide +kernel
theorem dX4_rays_6 : decode cX4_rays 6 = .ok (.ifCond .eq 13, 3) := by decide +kernel
theorem dX4_rays_9 : decode cX4_rays 9 = .ok (.iload_n 2, 1) := by decide +kernel
theorem dX4_rays_10 : decode cX4_rays 10 = .ok (.iconst 1, 1) := by decide +kernel
theorem dX4_rays_11 : decode cX4_rays 11 = .ok (.bipush 8, 2) := by decide +kernel
theorem dX4_rays_13 : decode cX4_rays 13 = .ok (.invokestatic 47, 3) := by decide +kernel
theorem dX4_rays_16 : decode cX4_rays 16 = .ok (.ifCond .ne 6, 3) := by decide +kernel
theorem dX4_rays_19 : decode cX4_rays 19 = .ok (.bipush (-2), 2) := by decide +kernel
theorem dX4_rays_21 : decode cX4_rays 21 = .ok (.ireturn, 1) := by decide +kernel
theorem dX4_rays_22 : decode cX4_rays 22 = .ok (.aload_n 0, 1) := by decide +kernel
theorem dX4_rays_23 : decode cX4_rays 23 = .ok (.iload_n 1, 1) := by decide +kernel
theorem dX4_rays_24 : decode cX4_rays 24 = .ok (.putfield 7, 3) := by decide +kernel
theorem dX4_rays_27 : decode cX4_rays 27 = .ok (.aload_n 0, 1) := by decide +kernel
theorem dX4_rays_28 : decode cX4_rays 28 = .ok (.iload_n 2, 1) := by decide +kernel
theorem dX4_rays_29 : decode cX4_rays 29 = .ok (.putfield 13, 3) := by decide +kernel
theorem dX4_rays_32 : decode cX4_rays 32 = .ok (.aload_n 0, 1) := by decide +kernel
theorem dX4_rays_33 : decode cX4_rays 33 = .ok (.invokevirtual 41, 3) := by decide +kernel
theorem dX4_rays_36 : decode cX4_rays 36 = .ok (.iload_n 1, 1) := by decide +kernel
theorem dX4_rays_37 : decode cX4_rays 37 = .ok (.iload_n 2, 1) := by decide +kernel
theorem dX4_rays_38 : decode cX4_rays 38 = .ok (.imul, 1) := by decide +kernel
theorem dX4_rays_39 : decode cX4_rays 39 = .ok (.ireturn, 1) := by decide +kernel
theorem dX4_costs_0 : decode cX4_costs 0 = .ok (.iload_n 1, 1) := by decide +kernel
theorem dX4_costs_1 : decode cX4_costs 1 = .ok (.iconst 1, 1) := by decide +kernel
theorem dX4_costs_2 : decode cX4_costs 2 = .ok (.bipush 9, 2) := by decide +kernel
theorem dX4_costs_4 : decode cX4_costs 4 = .ok (.invokestatic 47, 3) := by decide +kernel
theorem dX4_costs_7 : decode cX4_costs 7 = .ok (.ifCond .eq 13, 3) := by decide +kernel
theorem dX4_costs_10 : decode cX4_costs 10 = .ok (.iload_n 2, 1) := by decide +kernel
theorem dX4_costs_11 : decode cX4_costs 11 = .ok (.iconst 1, 1) := by decide +kernel
theorem dX4_costs_12 : decode cX4_costs 12 = .ok (.bipush 9, 2) := by decide +kernel
theorem dX4_costs_14 : decode cX4_costs 14 = .ok (.invokestatic 47, 3) := by decide +kernel
theorem dX4_costs_17 : decode cX4_costs 17 = .ok (.ifCond .ne 6, 3) := by decide +kernel
theorem dX4_costs_20 : decode cX4_costs 20 = .ok (.bipush (-2), 2) := by decide +kernel
theorem dX4_costs_22 : decode cX4_costs 22 = .ok (.ireturn, 1) := by decide +kernel
theorem dX4_costs_23 : decode cX4_costs 23 = .ok (.aload_n 0, 1) := by decide +kernel
theorem dX4_costs_24 : decode cX4_costs 24 = .ok (.iload_n 1, 1) := by decide +kernel
theorem dX4_costs_25 : decode cX4_costs 25 = .ok (.putfield 16, 3) := by decide +kernel
theorem dX4_costs_28 : decode cX4_costs 28 = .ok (.aload_n 0, 1) := by decide +kernel
theorem dX4_costs_29 : decode cX4_costs 29 = .ok (.iload_n 2, 1) := by decide +kernel
theorem dX4_costs_30 : decode cX4_costs 30 = .ok (.putfield 19, 3) := by decide +kernel
theorem dX4_costs_33 : decode cX4_costs 33 = .ok (.iconst 1, 1) := by decide +kernel
theorem dX4_costs_34 : decode cX4_costs 34 = .ok (.ireturn, 1) := by decide +kernel
theorem dX4_share_0 : decode cX4_share 0 = .ok (.aload_n 0, 1) := by decide +kernel
theorem dX4_share_1 : decode cX4_share 1 = .ok (.iload_n 1, 1) := by decide +kernel
theorem dX4_share_2 : decode cX4_share 2 = .ok (.iload_n 2, 1) := by decide +kernel
theorem dX4_share_3 : decode cX4_share 3 = .ok (.invokevirtual 51, 3) := by decide +kernel
theorem dX4_share_6 : decode cX4_share 6 = .ok (.ifCond .ne 5, 3) := by decide +kernel
theorem dX4_share_9 : decode cX4_share 9 = .ok (.iconst (-1), 1) := by decide +kernel
theorem dX4_share_10 : decode cX4_share 10 = .ok (.ireturn, 1) := by decide +kernel
theorem dX4_share_11 : decode cX4_share 11 = .ok (.iload_n 3, 1) := by decide +kernel
theorem dX4_share_12 : decode cX4_share 12 = .ok (.iconst 0, 1) := by decide +kernel
theorem dX4_share_13 : decode cX4_share 13 = .ok (.bipush 100, 2) := by decide +kernel
theorem dX4_share_15 : decode cX4_share 15 = .ok (.invokestatic 47, 3) := by decide +kernel
theorem dX4_share_18 : decode cX4_share 18 = .ok (.ifCond .ne 6, 3) := by decide +kernel
theorem dX4_share_21 : decode cX4_share 21 = .ok (.bipush (-2), 2) := by decide +kernel
theorem dX4_share_23 : decode cX4_share 23 = .ok (.ireturn, 1) := by decide +kernel
theorem dX4_share_24 : decode cX4_share 24 = .ok (.aload_n 0, 1) := by decide +kernel
theorem dX4_share_25 : decode cX4_share 25 = .ok (.getfield 22, 3) := by decide +kernel
theorem dX4_share_28 : decode cX4_share 28 = .ok (.bipush 9, 2) := by decide +kernel
theorem dX4_share_30 : decode cX4_share 30 = .ok (.iload_n 1, 1) := by decide +kernel
theorem dX4_share_31 : decode cX4_share 31 = .ok (.imul, 1) := by decide +kernel
theorem dX4_share_32 : decode cX4_share 32 = .ok (.iload_n 2, 1) := by decide +kernel
theorem dX4_share_33 : decode cX4_share 33 = .ok (.iadd, 1) := by decide +kernel
theorem dX4_share_34 : decode cX4_share 34 = .ok (.iaload, 1) := by decide +kernel
theorem dX4_share_35 : decode cX4_share 35 = .ok (.istore 4, 2) := by decide +kernel
theorem dX4_share_37 : decode cX4_share 37 = .ok (.aload_n 0, 1) := by decide +kernel
theorem dX4_share_38 : decode cX4_share 38 = .ok (.getfield 22, 3) := by decide +kernel
theorem dX4_share_41 : decode cX4_share 41 = .ok (.bipush 9, 2) := by decide +kernel
theorem dX4_share_43 : decode cX4_share 43 = .ok (.iload_n 1, 1) := by decide +kernel
theorem dX4_share_44 : decode cX4_share 44 = .ok (.imul, 1) := by decide +kernel
theorem dX4_share_45 : decode cX4_share 45 = .ok (.iload_n 2, 1) := by decide +kernel
theorem dX4_share_46 : decode cX4_share 46 = .ok (.iadd, 1) := by decide +kernel
theorem dX4_share_47 : decode cX4_share 47 = .ok (.iload_n 3, 1) := by decide +kernel
theorem dX4_share_48 : decode cX4_share 48 = .ok (.iastore, 1) := by decide +kernel
theorem dX4_share_49 : decode cX4_share 49 = .ok (.iload 4, 2) := by decide +kernel
theorem dX4_share_51 : decode cX4_share 51 = .ok (.ireturn, 1) := by decide +kernel
theorem dX4_shareOf_0 : decode cX4_shareOf 0 = .ok (.aload_n 0, 1) := by decide +kernel
theorem dX4_shareOf_1 : decode cX4_shareOf 1 = .ok (.iload_n 1, 1) := by decide +kernel
theorem dX4_shareOf_2 : decode cX4_shareOf 2 = .ok (.iload_n 2, 1) := by decide +kernel
theorem dX4_shareOf_3 : decode cX4_shareOf 3 = .ok (.invokevirtual 51, 3) := by decide +kernel
theorem dX4_shareOf_6 : decode cX4_shareOf 6 = .ok (.ifCond .eq 17, 3) := by decide +kernel
theorem dX4_shareOf_9 : decode cX4_shareOf 9 = .ok (.aload_n 0, 1) := by decide +kernel
theorem dX4_shareOf_10 : decode cX4_shareOf 10 = .ok (.getfield 22, 3) := by decide +kernel
theorem dX4_shareOf_13 : decode cX4_shareOf 13 = .ok (.bipush 9, 2) := by decide +kernel
theorem dX4_shareOf_15 : decode cX4_shareOf 15 = .ok (.iload_n 1, 1) := by decide +kernel
theorem dX4_shareOf_16 : decode cX4_shareOf 16 = .ok (.imul, 1) := by decide +kernel
theorem dX4_shareOf_17 : decode cX4_shareOf 17 = .ok (.iload_n 2, 1) := by decide +kernel
theorem dX4_shareOf_18 : decode cX4_shareOf 18 = .ok (.iadd, 1) := by decide +kernel
theorem dX4_shareOf_19 : decode cX4_shareOf 19 = .ok (.iaload, 1) := by decide +kernel
theorem dX4_shareOf_20 : decode cX4_shareOf 20 = .ok (.goto 4, 3) := by decide +kernel
theorem dX4_shareOf_23 : decode cX4_shareOf 23 = .ok (.iconst (-1), 1) := by decide +kernel
theorem dX4_shareOf_24 : decode cX4_shareOf 24 = .ok (.ireturn, 1) := by decide +kernel
theorem dX4_trip_0 : decode cX4_trip 0 = .ok (.aload_n 0, 1) := by decide +kernel
theorem dX4_trip_1 : decode cX4_trip 1 = .ok (.iload_n 1, 1) := by decide +kernel
theorem dX4_trip_2 : decode cX4_trip 2 = .ok (.iload_n 2, 1) := by decide +kernel
theorem dX4_trip_3 : decode cX4_trip 3 = .ok (.invokevirtual 51, 3) := by decide +kernel
theorem dX4_trip_6 : decode cX4_trip 6 = .ok (.ifCond .ne 5, 3) := by decide +kernel
theorem dX4_trip_9 : decode cX4_trip 9 = .ok (.iconst (-1), 1) := by decide +kernel
theorem dX4_trip_10 : decode cX4_trip 10 = .ok (.ireturn, 1) := by decide +kernel
theorem dX4_trip_11 : decode cX4_trip 11 = .ok (.aload_n 0, 1) := by decide +kernel
theorem dX4_trip_12 : decode cX4_trip 12 = .ok (.getfield 44, 3) := by decide +kernel
theorem dX4_trip_15 : decode cX4_trip 15 = .ok (.bipush 30, 2) := by decide +kernel
theorem dX4_trip_17 : decode cX4_trip 17 = .ok (.if_icmp .ne 6, 3) := by decide +kernel
theorem dX4_trip_20 : decode cX4_trip 20 = .ok (.bipush (-4), 2) := by decide +kernel
theorem dX4_trip_22 : decode cX4_trip 22 = .ok (.ireturn, 1) := by decide +kernel
theorem dX4_trip_23 : decode cX4_trip 23 = .ok (.aload_n 0, 1) := by decide +kernel
theorem dX4_trip_24 : decode cX4_trip 24 = .ok (.getfield 26, 3) := by decide +kernel
theorem dX4_trip_27 : decode cX4_trip 27 = .ok (.aload_n 0, 1) := by decide +kernel
theorem dX4_trip_28 : decode cX4_trip 28 = .ok (.getfield 44, 3) := by decide +kernel
theorem dX4_trip_31 : decode cX4_trip 31 = .ok (.iload_n 1, 1) := by decide +kernel
theorem dX4_trip_32 : decode cX4_trip 32 = .ok (.iastore, 1) := by decide +kernel
theorem dX4_trip_33 : decode cX4_trip 33 = .ok (.aload_n 0, 1) := by decide +kernel
theorem dX4_trip_34 : decode cX4_trip 34 = .ok (.getfield 29, 3) := by decide +kernel
theorem dX4_trip_37 : decode cX4_trip 37 = .ok (.aload_n 0, 1) := by decide +kernel
theorem dX4_trip_38 : decode cX4_trip 38 = .ok (.getfield 44, 3) := by decide +kernel
theorem dX4_trip_41 : decode cX4_trip 41 = .ok (.iload_n 2, 1) := by decide +kernel
theorem dX4_trip_42 : decode cX4_trip 42 = .ok (.iastore, 1) := by decide +kernel
theorem dX4_trip_43 : decode cX4_trip 43 = .ok (.aload_n 0, 1) := by decide +kernel
theorem dX4_trip_44 : decode cX4_trip 44 = .ok (.dup, 1) := by decide +kernel
theorem dX4_trip_45 : decode cX4_trip 45 = .ok (.getfield 44, 3) := by decide +kernel
theorem dX4_trip_48 : decode cX4_trip 48 = .ok (.iconst 1, 1) := by decide +kernel
theorem dX4_trip_49 : decode cX4_trip 49 = .ok (.iadd, 1) := by decide +kernel
theorem dX4_trip_50 : decode cX4_trip 50 = .ok (.putfield 44, 3) := by decide +kernel
theorem dX4_trip_53 : decode cX4_trip 53 = .ok (.aload_n 0, 1) := by decide +kernel
theorem dX4_trip_54 : decode cX4_trip 54 = .ok (.getfield 44, 3) := by decide +kernel
theorem dX4_trip_57 : decode cX4_trip 57 = .ok (.iconst 1, 1) := by decide +kernel
theorem dX4_trip_58 : decode cX4_trip 58 = .ok (.isub, 1) := by decide +kernel
theorem dX4_trip_59 : decode cX4_trip 59 = .ok (.ireturn, 1) := by decide +kernel
theorem dX4_costAhead_0 : decode cX4_costAhead 0 = .ok (.iconst 0, 1) := by decide +kernel
theorem dX4_costAhead_1 : decode cX4_costAhead 1 = .ok (.istore_n 2, 1) := by decide +kernel
theorem dX4_costAhead_2 : decode cX4_costAhead 2 = .ok (.iconst 0, 1) := by decide +kernel
theorem dX4_costAhead_3 : decode cX4_costAhead 3 = .ok (.istore_n 3, 1) := by decide +kernel
theorem dX4_costAhead_4 : decode cX4_costAhead 4 = .ok (.iload_n 3, 1) := by decide +kernel
theorem dX4_costAhead_5 : decode cX4_costAhead 5 = .ok (.iload_n 1, 1) := by decide +kernel
theorem dX4_costAhead_6 : decode cX4_costAhead 6 = .ok (.if_icmp .ge 28, 3) := by decide +kernel
theorem dX4_costAhead_9 : decode cX4_costAhead 9 = .ok (.iload_n 2, 1) := by decide +kernel
theorem dX4_costAhead_10 : decode cX4_costAhead 10 = .ok (.aload_n 0, 1) := by decide +kernel
theorem dX4_costAhead_11 : decode cX4_costAhead 11 = .ok (.getfield 29, 3) := by decide +kernel
theorem dX4_costAhead_14 : decode cX4_costAhead 14 = .ok (.iload_n 3, 1) := by decide +kernel
theorem dX4_costAhead_15 : decode cX4_costAhead 15 = .ok (.iaload, 1) := by decide +kernel
theorem dX4_costAhead_16 : decode cX4_costAhead 16 = .ok (.aload_n 0, 1) := by decide +kernel
theorem dX4_costAhead_17 : decode cX4_costAhead 17 = .ok (.getfield 16, 3) := by decide +kernel
theorem dX4_costAhead_20 : decode cX4_costAhead 20 = .ok (.aload_n 0, 1) := by decide +kernel
theorem dX4_costAhead_21 : decode cX4_costAhead 21 = .ok (.getfield 19, 3) := by decide +kernel
theorem dX4_costAhead_24 : decode cX4_costAhead 24 = .ok (.iadd, 1) := by decide +kernel
theorem dX4_costAhead_25 : decode cX4_costAhead 25 = .ok (.imul, 1) := by decide +kernel
theorem dX4_costAhead_26 : decode cX4_costAhead 26 = .ok (.iadd, 1) := by decide +kernel
theorem dX4_costAhead_27 : decode cX4_costAhead 27 = .ok (.istore_n 2, 1) := by decide +kernel
theorem dX4_costAhead_28 : decode cX4_costAhead 28 = .ok (.iinc 3 1, 3) := by decide +kernel
theorem dX4_costAhead_31 : decode cX4_costAhead 31 = .ok (.goto (-27), 3) := by decide +kernel
theorem dX4_costAhead_34 : decode cX4_costAhead 34 = .ok (.iload_n 2, 1) := by decide +kernel
theorem dX4_costAhead_35 : decode cX4_costAhead 35 = .ok (.ireturn, 1) := by decide +kernel
theorem dX4_tripOf_0 : decode cX4_tripOf 0 = .ok (.iload_n 1, 1) := by decide +kernel
theorem dX4_tripOf_1 : decode cX4_tripOf 1 = .ok (.iconst 0, 1) := by decide +kernel
theorem dX4_tripOf_2 : decode cX4_tripOf 2 = .ok (.aload_n 0, 1) := by decide +kernel
theorem dX4_tripOf_3 : decode cX4_tripOf 3 = .ok (.getfield 44, 3) := by decide +kernel
theorem dX4_tripOf_6 : decode cX4_tripOf 6 = .ok (.iconst 1, 1) := by decide +kernel
theorem dX4_tripOf_7 : decode cX4_tripOf 7 = .ok (.isub, 1) := by decide +kernel
theorem dX4_tripOf_8 : decode cX4_tripOf 8 = .ok (.invokestatic 47, 3) := by decide +kernel
theorem dX4_tripOf_11 : decode cX4_tripOf 11 = .ok (.ifCond .ne 5, 3) := by decide +kernel
theorem dX4_tripOf_14 : decode cX4_tripOf 14 = .ok (.iconst (-1), 1) := by decide +kernel
theorem dX4_tripOf_15 : decode cX4_tripOf 15 = .ok (.ireturn, 1) := by decide +kernel
theorem dX4_tripOf_16 : decode cX4_tripOf 16 = .ok (.iload_n 2, 1) := by decide +kernel
theorem dX4_tripOf_17 : decode cX4_tripOf 17 = .ok (.ifCond .ne 12, 3) := by decide +kernel
theorem dX4_tripOf_20 : decode cX4_tripOf 20 = .ok (.aload_n 0, 1) := by decide +kernel
theorem dX4_tripOf_21 : decode cX4_tripOf 21 = .ok (.getfield 26, 3) := by decide +kernel
theorem dX4_tripOf_24 : decode cX4_tripOf 24 = .ok (.iload_n 1, 1) := by decide +kernel
theorem dX4_tripOf_25 : decode cX4_tripOf 25 = .ok (.iaload, 1) := by decide +kernel
theorem dX4_tripOf_26 : decode cX4_tripOf 26 = .ok (.goto 32, 3) := by decide +kernel
theorem dX4_tripOf_29 : decode cX4_tripOf 29 = .ok (.iload_n 2, 1) := by decide +kernel
theorem dX4_tripOf_30 : decode cX4_tripOf 30 = .ok (.iconst 1, 1) := by decide +kernel
theorem dX4_tripOf_31 : decode cX4_tripOf 31 = .ok (.if_icmp .ne 12, 3) := by decide +kernel
theorem dX4_tripOf_34 : decode cX4_tripOf 34 = .ok (.aload_n 0, 1) := by decide +kernel
theorem dX4_tripOf_35 : decode cX4_tripOf 35 = .ok (.getfield 29, 3) := by decide +kernel
theorem dX4_tripOf_38 : decode cX4_tripOf 38 = .ok (.iload_n 1, 1) := by decide +kernel
theorem dX4_tripOf_39 : decode cX4_tripOf 39 = .ok (.iaload, 1) := by decide +kernel
theorem dX4_tripOf_40 : decode cX4_tripOf 40 = .ok (.goto 18, 3) := by decide +kernel
theorem dX4_tripOf_43 : decode cX4_tripOf 43 = .ok (.iload_n 2, 1) := by decide +kernel
theorem dX4_tripOf_44 : decode cX4_tripOf 44 = .ok (.iconst 2, 1) := by decide +kernel
theorem dX4_tripOf_45 : decode cX4_tripOf 45 = .ok (.if_icmp .ne 11, 3) := by decide +kernel
theorem dX4_tripOf_48 : decode cX4_tripOf 48 = .ok (.aload_n 0, 1) := by decide +kernel
theorem dX4_tripOf_49 : decode cX4_tripOf 49 = .ok (.iload_n 1, 1) := by decide +kernel
theorem dX4_tripOf_50 : decode cX4_tripOf 50 = .ok (.invokevirtual 55, 3) := by decide +kernel
theorem dX4_tripOf_53 : decode cX4_tripOf 53 = .ok (.goto 5, 3) := by decide +kernel
theorem dX4_tripOf_56 : decode cX4_tripOf 56 = .ok (.bipush (-2), 2) := by decide +kernel
theorem dX4_tripOf_58 : decode cX4_tripOf 58 = .ok (.ireturn, 1) := by decide +kernel
theorem dX4_drop_0 : decode cX4_drop 0 = .ok (.aload_n 0, 1) := by decide +kernel
theorem dX4_drop_1 : decode cX4_drop 1 = .ok (.getfield 44, 3) := by decide +kernel
theorem dX4_drop_4 : decode cX4_drop 4 = .ok (.ifCond .ne 5, 3) := by decide +kernel
theorem dX4_drop_7 : decode cX4_drop 7 = .ok (.iconst (-1), 1) := by decide +kernel
theorem dX4_drop_8 : decode cX4_drop 8 = .ok (.ireturn, 1) := by decide +kernel
theorem dX4_drop_9 : decode cX4_drop 9 = .ok (.aload_n 0, 1) := by decide +kernel
theorem dX4_drop_10 : decode cX4_drop 10 = .ok (.dup, 1) := by decide +kernel
theorem dX4_drop_11 : decode cX4_drop 11 = .ok (.getfield 44, 3) := by decide +kernel
theorem dX4_drop_14 : decode cX4_drop 14 = .ok (.iconst 1, 1) := by decide +kernel
theorem dX4_drop_15 : decode cX4_drop 15 = .ok (.isub, 1) := by decide +kernel
theorem dX4_drop_16 : decode cX4_drop 16 = .ok (.putfield 44, 3) := by decide +kernel
theorem dX4_drop_19 : decode cX4_drop 19 = .ok (.aload_n 0, 1) := by decide +kernel
theorem dX4_drop_20 : decode cX4_drop 20 = .ok (.getfield 44, 3) := by decide +kernel
theorem dX4_drop_23 : decode cX4_drop 23 = .ok (.ireturn, 1) := by decide +kernel
theorem dX4_clear_0 : decode cX4_clear 0 = .ok (.aload_n 0, 1) := by decide +kernel
theorem dX4_clear_1 : decode cX4_clear 1 = .ok (.getfield 44, 3) := by decide +kernel
theorem dX4_clear_4 : decode cX4_clear 4 = .ok (.istore_n 1, 1) := by decide +kernel
theorem dX4_clear_5 : decode cX4_clear 5 = .ok (.aload_n 0, 1) := by decide +kernel
theorem dX4_clear_6 : decode cX4_clear 6 = .ok (.iconst 0, 1) := by decide +kernel
theorem dX4_clear_7 : decode cX4_clear 7 = .ok (.putfield 44, 3) := by decide +kernel
theorem dX4_clear_10 : decode cX4_clear 10 = .ok (.iload_n 1, 1) := by decide +kernel
theorem dX4_clear_11 : decode cX4_clear 11 = .ok (.ireturn, 1) := by decide +kernel
theorem dX4_comes_0 : decode cX4_comes 0 = .ok (.iconst 0, 1) := by decide +kernel
theorem dX4_comes_1 : decode cX4_comes 1 = .ok (.istore_n 3, 1) := by decide +kernel
theorem dX4_comes_2 : decode cX4_comes 2 = .ok (.iload_n 3, 1) := by decide +kernel
theorem dX4_comes_3 : decode cX4_comes 3 = .ok (.aload_n 0, 1) := by decide +kernel
theorem dX4_comes_4 : decode cX4_comes 4 = .ok (.getfield 44, 3) := by decide +kernel
theorem dX4_comes_7 : decode cX4_comes 7 = .ok (.if_icmp .ge 31, 3) := by decide +kernel
theorem dX4_comes_10 : decode cX4_comes 10 = .ok (.aload_n 0, 1) := by decide +kernel
theorem dX4_comes_11 : decode cX4_comes 11 = .ok (.getfield 26, 3) := by decide +kernel
theorem dX4_comes_14 : decode cX4_comes 14 = .ok (.iload_n 3, 1) := by decide +kernel
theorem dX4_comes_15 : decode cX4_comes 15 = .ok (.iaload, 1) := by decide +kernel
theorem dX4_comes_16 : decode cX4_comes 16 = .ok (.iload_n 1, 1) := by decide +kernel
theorem dX4_comes_17 : decode cX4_comes 17 = .ok (.if_icmp .ne 15, 3) := by decide +kernel
theorem dX4_comes_20 : decode cX4_comes 20 = .ok (.aload_n 0, 1) := by decide +kernel
theorem dX4_comes_21 : decode cX4_comes 21 = .ok (.getfield 29, 3) := by decide +kernel
theorem dX4_comes_24 : decode cX4_comes 24 = .ok (.iload_n 3, 1) := by decide +kernel
theorem dX4_comes_25 : decode cX4_comes 25 = .ok (.iaload, 1) := by decide +kernel
theorem dX4_comes_26 : decode cX4_comes 26 = .ok (.iload_n 2, 1) := by decide +kernel
theorem dX4_comes_27 : decode cX4_comes 27 = .ok (.if_icmp .lt 5, 3) := by decide +kernel
theorem dX4_comes_30 : decode cX4_comes 30 = .ok (.iload_n 3, 1) := by decide +kernel
theorem dX4_comes_31 : decode cX4_comes 31 = .ok (.ireturn, 1) := by decide +kernel
theorem dX4_comes_32 : decode cX4_comes 32 = .ok (.iinc 3 1, 3) := by decide +kernel
theorem dX4_comes_35 : decode cX4_comes 35 = .ok (.goto (-33), 3) := by decide +kernel
theorem dX4_comes_38 : decode cX4_comes 38 = .ok (.bipush (-6), 2) := by decide +kernel
theorem dX4_comes_40 : decode cX4_comes 40 = .ok (.ireturn, 1) := by decide +kernel
theorem dX4_wayOf_0 : decode cX4_wayOf 0 = .ok (.aload_n 0, 1) := by decide +kernel
theorem dX4_wayOf_1 : decode cX4_wayOf 1 = .ok (.iload_n 1, 1) := by decide +kernel
theorem dX4_wayOf_2 : decode cX4_wayOf 2 = .ok (.iload_n 2, 1) := by decide +kernel
theorem dX4_wayOf_3 : decode cX4_wayOf 3 = .ok (.invokevirtual 59, 3) := by decide +kernel
theorem dX4_wayOf_6 : decode cX4_wayOf 6 = .ok (.istore_n 3, 1) := by decide +kernel
theorem dX4_wayOf_7 : decode cX4_wayOf 7 = .ok (.iload_n 3, 1) := by decide +kernel
theorem dX4_wayOf_8 : decode cX4_wayOf 8 = .ok (.ifCond .ge 8, 3) := by decide +kernel
theorem dX4_wayOf_11 : decode cX4_wayOf 11 = .ok (.bipush (-6), 2) := by decide +kernel
theorem dX4_wayOf_13 : decode cX4_wayOf 13 = .ok (.goto 15, 3) := by decide +kernel
theorem dX4_wayOf_16 : decode cX4_wayOf 16 = .ok (.aload_n 0, 1) := by decide +kernel
theorem dX4_wayOf_17 : decode cX4_wayOf 17 = .ok (.iload_n 3, 1) := by decide +kernel
theorem dX4_wayOf_18 : decode cX4_wayOf 18 = .ok (.invokevirtual 55, 3) := by decide +kernel
theorem dX4_wayOf_21 : decode cX4_wayOf 21 = .ok (.aload_n 0, 1) := by decide +kernel
theorem dX4_wayOf_22 : decode cX4_wayOf 22 = .ok (.getfield 16, 3) := by decide +kernel
theorem dX4_wayOf_25 : decode cX4_wayOf 25 = .ok (.iload_n 2, 1) := by decide +kernel
theorem dX4_wayOf_26 : decode cX4_wayOf 26 = .ok (.imul, 1) := by decide +kernel
theorem dX4_wayOf_27 : decode cX4_wayOf 27 = .ok (.iadd, 1) := by decide +kernel
theorem dX4_wayOf_28 : decode cX4_wayOf 28 = .ok (.ireturn, 1) := by decide +kernel
theorem dX4_way_0 : decode cX4_way 0 = .ok (.aload_n 0, 1) := by decide +kernel
theorem dX4_way_1 : decode cX4_way 1 = .ok (.iload_n 1, 1) := by decide +kernel
theorem dX4_way_2 : decode cX4_way 2 = .ok (.iload_n 2, 1) := by decide +kernel
theorem dX4_way_3 : decode cX4_way 3 = .ok (.invokevirtual 51, 3) := by decide +kernel
theorem dX4_way_6 : decode cX4_way 6 = .ok (.ifCond .eq 12, 3) := by decide +kernel
theorem dX4_way_9 : decode cX4_way 9 = .ok (.aload_n 0, 1) := by decide +kernel
theorem dX4_way_10 : decode cX4_way 10 = .ok (.iload_n 1, 1) := by decide +kernel
theorem dX4_way_11 : decode cX4_way 11 = .ok (.iload_n 2, 1) := by decide +kernel
theorem dX4_way_12 : decode cX4_way 12 = .ok (.invokevirtual 63, 3) := by decide +kernel
theorem dX4_way_15 : decode cX4_way 15 = .ok (.goto 4, 3) := by decide +kernel
theorem dX4_way_18 : decode cX4_way 18 = .ok (.iconst (-1), 1) := by decide +kernel
theorem dX4_way_19 : decode cX4_way 19 = .ok (.ireturn, 1) := by decide +kernel
theorem dX4_common_0 : decode cX4_common 0 = .ok (.iload_n 0, 1) := by decide +kernel
theorem dX4_common_1 : decode cX4_common 1 = .ok (.istore_n 2, 1) := by decide +kernel
theorem dX4_common_2 : decode cX4_common 2 = .ok (.iload_n 1, 1) := by decide +kernel
theorem dX4_common_3 : decode cX4_common 3 = .ok (.istore_n 3, 1) := by decide +kernel
theorem dX4_common_4 : decode cX4_common 4 = .ok (.iload_n 3, 1) := by decide +kernel
theorem dX4_common_5 : decode cX4_common 5 = .ok (.ifCond .eq 16, 3) := by decide +kernel
theorem dX4_common_8 : decode cX4_common 8 = .ok (.iload_n 2, 1) := by decide +kernel
theorem dX4_common_9 : decode cX4_common 9 = .ok (.iload_n 3, 1) := by decide +kernel
theorem dX4_common_10 : decode cX4_common 10 = .ok (.irem, 1) := by decide +kernel
theorem dX4_common_11 : decode cX4_common 11 = .ok (.istore 4, 2) := by decide +kernel
theorem dX4_common_13 : decode cX4_common 13 = .ok (.iload_n 3, 1) := by decide +kernel
theorem dX4_common_14 : decode cX4_common 14 = .ok (.istore_n 2, 1) := by decide +kernel
theorem dX4_common_15 : decode cX4_common 15 = .ok (.iload 4, 2) := by decide +kernel
theorem dX4_common_17 : decode cX4_common 17 = .ok (.istore_n 3, 1) := by decide +kernel
theorem dX4_common_18 : decode cX4_common 18 = .ok (.goto (-14), 3) := by decide +kernel
theorem dX4_common_21 : decode cX4_common 21 = .ok (.iload_n 2, 1) := by decide +kernel
theorem dX4_common_22 : decode cX4_common 22 = .ok (.ireturn, 1) := by decide +kernel
theorem dX4_term_0 : decode cX4_term 0 = .ok (.iload_n 2, 1) := by decide +kernel
theorem dX4_term_1 : decode cX4_term 1 = .ok (.ifCond .ne 7, 3) := by decide +kernel
theorem dX4_term_4 : decode cX4_term 4 = .ok (.iload_n 0, 1) := by decide +kernel
theorem dX4_term_5 : decode cX4_term 5 = .ok (.goto 4, 3) := by decide +kernel
theorem dX4_term_8 : decode cX4_term 8 = .ok (.iload_n 1, 1) := by decide +kernel
theorem dX4_term_9 : decode cX4_term 9 = .ok (.iload_n 0, 1) := by decide +kernel
theorem dX4_term_10 : decode cX4_term 10 = .ok (.iload_n 1, 1) := by decide +kernel
theorem dX4_term_11 : decode cX4_term 11 = .ok (.invokestatic 66, 3) := by decide +kernel
theorem dX4_term_14 : decode cX4_term 14 = .ok (.idiv, 1) := by decide +kernel
theorem dX4_term_15 : decode cX4_term 15 = .ok (.ireturn, 1) := by decide +kernel
theorem dX4_late_0 : decode cX4_late 0 = .ok (.aload_n 0, 1) := by decide +kernel
theorem dX4_late_1 : decode cX4_late 1 = .ok (.iload_n 1, 1) := by decide +kernel
theorem dX4_late_2 : decode cX4_late 2 = .ok (.iload_n 2, 1) := by decide +kernel
theorem dX4_late_3 : decode cX4_late 3 = .ok (.invokevirtual 51, 3) := by decide +kernel
theorem dX4_late_6 : decode cX4_late 6 = .ok (.ifCond .ne 5, 3) := by decide +kernel
theorem dX4_late_9 : decode cX4_late 9 = .ok (.iconst (-1), 1) := by decide +kernel
theorem dX4_late_10 : decode cX4_late 10 = .ok (.ireturn, 1) := by decide +kernel
theorem dX4_late_11 : decode cX4_late 11 = .ok (.iload_n 3, 1) := by decide +kernel
theorem dX4_late_12 : decode cX4_late 12 = .ok (.iconst 0, 1) := by decide +kernel
theorem dX4_late_13 : decode cX4_late 13 = .ok (.iconst 1, 1) := by decide +kernel
theorem dX4_late_14 : decode cX4_late 14 = .ok (.invokestatic 47, 3) := by decide +kernel
theorem dX4_late_17 : decode cX4_late 17 = .ok (.ifCond .ne 6, 3) := by decide +kernel
theorem dX4_late_20 : decode cX4_late 20 = .ok (.bipush (-2), 2) := by decide +kernel
theorem dX4_late_22 : decode cX4_late 22 = .ok (.ireturn, 1) := by decide +kernel
theorem dX4_late_23 : decode cX4_late 23 = .ok (.aload_n 0, 1) := by decide +kernel
theorem dX4_late_24 : decode cX4_late 24 = .ok (.iload_n 1, 1) := by decide +kernel
theorem dX4_late_25 : decode cX4_late 25 = .ok (.iload_n 2, 1) := by decide +kernel
theorem dX4_late_26 : decode cX4_late 26 = .ok (.invokevirtual 63, 3) := by decide +kernel
theorem dX4_late_29 : decode cX4_late 29 = .ok (.istore 4, 2) := by decide +kernel
theorem dX4_late_31 : decode cX4_late 31 = .ok (.iload 4, 2) := by decide +kernel
theorem dX4_late_33 : decode cX4_late 33 = .ok (.ifCond .ge 8, 3) := by decide +kernel
theorem dX4_late_36 : decode cX4_late 36 = .ok (.bipush (-6), 2) := by decide +kernel
theorem dX4_late_38 : decode cX4_late 38 = .ok (.goto 15, 3) := by decide +kernel
theorem dX4_late_41 : decode cX4_late 41 = .ok (.iload 4, 2) := by decide +kernel
theorem dX4_late_43 : decode cX4_late 43 = .ok (.aload_n 0, 1) := by decide +kernel
theorem dX4_late_44 : decode cX4_late 44 = .ok (.getfield 16, 3) := by decide +kernel
theorem dX4_late_47 : decode cX4_late 47 = .ok (.iload_n 2, 1) := by decide +kernel
theorem dX4_late_48 : decode cX4_late 48 = .ok (.imul, 1) := by decide +kernel
theorem dX4_late_49 : decode cX4_late 49 = .ok (.iload_n 3, 1) := by decide +kernel
theorem dX4_late_50 : decode cX4_late 50 = .ok (.invokestatic 69, 3) := by decide +kernel
theorem dX4_late_53 : decode cX4_late 53 = .ok (.ireturn, 1) := by decide +kernel
theorem dX4_missedAt_0 : decode cX4_missedAt 0 = .ok (.iconst 0, 1) := by decide +kernel
theorem dX4_missedAt_1 : decode cX4_missedAt 1 = .ok (.istore_n 2, 1) := by decide +kernel
theorem dX4_missedAt_2 : decode cX4_missedAt 2 = .ok (.iconst 0, 1) := by decide +kernel
theorem dX4_missedAt_3 : decode cX4_missedAt 3 = .ok (.istore_n 3, 1) := by decide +kernel
theorem dX4_missedAt_4 : decode cX4_missedAt 4 = .ok (.iload_n 3, 1) := by decide +kernel
theorem dX4_missedAt_5 : decode cX4_missedAt 5 = .ok (.aload_n 0, 1) := by decide +kernel
theorem dX4_missedAt_6 : decode cX4_missedAt 6 = .ok (.getfield 7, 3) := by decide +kernel
theorem dX4_missedAt_9 : decode cX4_missedAt 9 = .ok (.if_icmp .ge 53, 3) := by decide +kernel
theorem dX4_missedAt_12 : decode cX4_missedAt 12 = .ok (.iconst 1, 1) := by decide +kernel
theorem dX4_missedAt_13 : decode cX4_missedAt 13 = .ok (.istore 4, 2) := by decide +kernel
theorem dX4_missedAt_15 : decode cX4_missedAt 15 = .ok (.iload 4, 2) := by decide +kernel
theorem dX4_missedAt_17 : decode cX4_missedAt 17 = .ok (.aload_n 0, 1) := by decide +kernel
theorem dX4_missedAt_18 : decode cX4_missedAt 18 = .ok (.getfield 13, 3) := by decide +kernel
theorem dX4_missedAt_21 : decode cX4_missedAt 21 = .ok (.if_icmp .gt 35, 3) := by decide +kernel
theorem dX4_missedAt_24 : decode cX4_missedAt 24 = .ok (.aload_n 0, 1) := by decide +kernel
theorem dX4_missedAt_25 : decode cX4_missedAt 25 = .ok (.iload_n 3, 1) := by decide +kernel
theorem dX4_missedAt_26 : decode cX4_missedAt 26 = .ok (.iload 4, 2) := by decide +kernel
theorem dX4_missedAt_28 : decode cX4_missedAt 28 = .ok (.invokevirtual 59, 3) := by decide +kernel
theorem dX4_missedAt_31 : decode cX4_missedAt 31 = .ok (.ifCond .ge 19, 3) := by decide +kernel
theorem dX4_missedAt_34 : decode cX4_missedAt 34 = .ok (.iload_n 2, 1) := by decide +kernel
theorem dX4_missedAt_35 : decode cX4_missedAt 35 = .ok (.iload_n 1, 1) := by decide +kernel
theorem dX4_missedAt_36 : decode cX4_missedAt 36 = .ok (.if_icmp .ne 11, 3) := by decide +kernel
theorem dX4_missedAt_39 : decode cX4_missedAt 39 = .ok (.bipush 10, 2) := by decide +kernel
theorem dX4_missedAt_41 : decode cX4_missedAt 41 = .ok (.iload_n 3, 1) := by decide +kernel
theorem dX4_missedAt_42 : decode cX4_missedAt 42 = .ok (.imul, 1) := by decide +kernel
theorem dX4_missedAt_43 : decode cX4_missedAt 43 = .ok (.iload 4, 2) := by decide +kernel
theorem dX4_missedAt_45 : decode cX4_missedAt 45 = .ok (.iadd, 1) := by decide +kernel
theorem dX4_missedAt_46 : decode cX4_missedAt 46 = .ok (.ireturn, 1) := by decide +kernel
theorem dX4_missedAt_47 : decode cX4_missedAt 47 = .ok (.iinc 2 1, 3) := by decide +kernel
theorem dX4_missedAt_50 : decode cX4_missedAt 50 = .ok (.iinc 4 1, 3) := by decide +kernel
theorem dX4_missedAt_53 : decode cX4_missedAt 53 = .ok (.goto (-38), 3) := by decide +kernel
theorem dX4_missedAt_56 : decode cX4_missedAt 56 = .ok (.iinc 3 1, 3) := by decide +kernel
theorem dX4_missedAt_59 : decode cX4_missedAt 59 = .ok (.goto (-55), 3) := by decide +kernel
theorem dX4_missedAt_62 : decode cX4_missedAt 62 = .ok (.iload_n 1, 1) := by decide +kernel
theorem dX4_missedAt_63 : decode cX4_missedAt 63 = .ok (.iconst (-1), 1) := by decide +kernel
theorem dX4_missedAt_64 : decode cX4_missedAt 64 = .ok (.if_icmp .ne 7, 3) := by decide +kernel
theorem dX4_missedAt_67 : decode cX4_missedAt 67 = .ok (.iload_n 2, 1) := by decide +kernel
theorem dX4_missedAt_68 : decode cX4_missedAt 68 = .ok (.goto 5, 3) := by decide +kernel
theorem dX4_missedAt_71 : decode cX4_missedAt 71 = .ok (.bipush (-6), 2) := by decide +kernel
theorem dX4_missedAt_73 : decode cX4_missedAt 73 = .ok (.ireturn, 1) := by decide +kernel
theorem dX4_worst_0 : decode cX4_worst 0 = .ok (.iload_n 1, 1) := by decide +kernel
theorem dX4_worst_1 : decode cX4_worst 1 = .ok (.iconst 0, 1) := by decide +kernel
theorem dX4_worst_2 : decode cX4_worst 2 = .ok (.iconst 3, 1) := by decide +kernel
theorem dX4_worst_3 : decode cX4_worst 3 = .ok (.invokestatic 47, 3) := by decide +kernel
theorem dX4_worst_6 : decode cX4_worst 6 = .ok (.ifCond .ne 6, 3) := by decide +kernel
theorem dX4_worst_9 : decode cX4_worst 9 = .ok (.bipush (-2), 2) := by decide +kernel
theorem dX4_worst_11 : decode cX4_worst 11 = .ok (.ireturn, 1) := by decide +kernel
theorem dX4_worst_12 : decode cX4_worst 12 = .ok (.aload_n 0, 1) := by decide +kernel
theorem dX4_worst_13 : decode cX4_worst 13 = .ok (.iconst (-1), 1) := by decide +kernel
theorem dX4_worst_14 : decode cX4_worst 14 = .ok (.invokevirtual 73, 3) := by decide +kernel
theorem dX4_worst_17 : decode cX4_worst 17 = .ok (.ifCond .le 6, 3) := by decide +kernel
theorem dX4_worst_20 : decode cX4_worst 20 = .ok (.bipush (-3), 2) := by decide +kernel
theorem dX4_worst_22 : decode cX4_worst 22 = .ok (.ireturn, 1) := by decide +kernel
theorem dX4_worst_23 : decode cX4_worst 23 = .ok (.iconst 0, 1) := by decide +kernel
theorem dX4_worst_24 : decode cX4_worst 24 = .ok (.istore_n 2, 1) := by decide +kernel
theorem dX4_worst_25 : decode cX4_worst 25 = .ok (.iconst 1, 1) := by decide +kernel
theorem dX4_worst_26 : decode cX4_worst 26 = .ok (.istore_n 3, 1) := by decide +kernel
theorem dX4_worst_27 : decode cX4_worst 27 = .ok (.iconst 0, 1) := by decide +kernel
theorem dX4_worst_28 : decode cX4_worst 28 = .ok (.istore 4, 2) := by decide +kernel
theorem dX4_worst_30 : decode cX4_worst 30 = .ok (.iload 4, 2) := by decide +kernel
theorem dX4_worst_32 : decode cX4_worst 32 = .ok (.aload_n 0, 1) := by decide +kernel
theorem dX4_worst_33 : decode cX4_worst 33 = .ok (.getfield 7, 3) := by decide +kernel
theorem dX4_worst_36 : decode cX4_worst 36 = .ok (.if_icmp .ge 55, 3) := by decide +kernel
theorem dX4_worst_39 : decode cX4_worst 39 = .ok (.iconst 1, 1) := by decide +kernel
theorem dX4_worst_40 : decode cX4_worst 40 = .ok (.istore 5, 2) := by decide +kernel
theorem dX4_worst_42 : decode cX4_worst 42 = .ok (.iload 5, 2) := by decide +kernel
theorem dX4_worst_44 : decode cX4_worst 44 = .ok (.aload_n 0, 1) := by decide +kernel
theorem dX4_worst_45 : decode cX4_worst 45 = .ok (.getfield 13, 3) := by decide +kernel
theorem dX4_worst_48 : decode cX4_worst 48 = .ok (.if_icmp .gt 37, 3) := by decide +kernel
theorem dX4_worst_51 : decode cX4_worst 51 = .ok (.aload_n 0, 1) := by decide +kernel
theorem dX4_worst_52 : decode cX4_worst 52 = .ok (.iload 4, 2) := by decide +kernel
theorem dX4_worst_54 : decode cX4_worst 54 = .ok (.iload 5, 2) := by decide +kernel
theorem dX4_worst_56 : decode cX4_worst 56 = .ok (.invokevirtual 63, 3) := by decide +kernel
theorem dX4_worst_59 : decode cX4_worst 59 = .ok (.iload_n 3, 1) := by decide +kernel
theorem dX4_worst_60 : decode cX4_worst 60 = .ok (.imul, 1) := by decide +kernel
theorem dX4_worst_61 : decode cX4_worst 61 = .ok (.aload_n 0, 1) := by decide +kernel
theorem dX4_worst_62 : decode cX4_worst 62 = .ok (.iload_n 2, 1) := by decide +kernel
theorem dX4_worst_63 : decode cX4_worst 63 = .ok (.iload_n 3, 1) := by decide +kernel
theorem dX4_worst_64 : decode cX4_worst 64 = .ok (.invokevirtual 63, 3) := by decide +kernel
theorem dX4_worst_67 : decode cX4_worst 67 = .ok (.iload 5, 2) := by decide +kernel
theorem dX4_worst_69 : decode cX4_worst 69 = .ok (.imul, 1) := by decide +kernel
theorem dX4_worst_70 : decode cX4_worst 70 = .ok (.if_icmp .le 9, 3) := by decide +kernel
theorem dX4_worst_73 : decode cX4_worst 73 = .ok (.iload 4, 2) := by decide +kernel
theorem dX4_worst_75 : decode cX4_worst 75 = .ok (.istore_n 2, 1) := by decide +kernel
theorem dX4_worst_76 : decode cX4_worst 76 = .ok (.iload 5, 2) := by decide +kernel
theorem dX4_worst_78 : decode cX4_worst 78 = .ok (.istore_n 3, 1) := by decide +kernel
theorem dX4_worst_79 : decode cX4_worst 79 = .ok (.iinc 5 1, 3) := by decide +kernel
theorem dX4_worst_82 : decode cX4_worst 82 = .ok (.goto (-40), 3) := by decide +kernel
theorem dX4_worst_85 : decode cX4_worst 85 = .ok (.iinc 4 1, 3) := by decide +kernel
theorem dX4_worst_88 : decode cX4_worst 88 = .ok (.goto (-58), 3) := by decide +kernel
theorem dX4_worst_91 : decode cX4_worst 91 = .ok (.iload_n 1, 1) := by decide +kernel
theorem dX4_worst_92 : decode cX4_worst 92 = .ok (.iconst 2, 1) := by decide +kernel
theorem dX4_worst_93 : decode cX4_worst 93 = .ok (.if_icmp .ne 7, 3) := by decide +kernel
theorem dX4_worst_96 : decode cX4_worst 96 = .ok (.iload_n 2, 1) := by decide +kernel
theorem dX4_worst_97 : decode cX4_worst 97 = .ok (.goto 28, 3) := by decide +kernel
theorem dX4_worst_100 : decode cX4_worst 100 = .ok (.iload_n 1, 1) := by decide +kernel
theorem dX4_worst_101 : decode cX4_worst 101 = .ok (.iconst 3, 1) := by decide +kernel
theorem dX4_worst_102 : decode cX4_worst 102 = .ok (.if_icmp .ne 7, 3) := by decide +kernel
theorem dX4_worst_105 : decode cX4_worst 105 = .ok (.iload_n 3, 1) := by decide +kernel
theorem dX4_worst_106 : decode cX4_worst 106 = .ok (.goto 19, 3) := by decide +kernel
theorem dX4_worst_109 : decode cX4_worst 109 = .ok (.aload_n 0, 1) := by decide +kernel
theorem dX4_worst_110 : decode cX4_worst 110 = .ok (.iload_n 2, 1) := by decide +kernel
theorem dX4_worst_111 : decode cX4_worst 111 = .ok (.iload_n 3, 1) := by decide +kernel
theorem dX4_worst_112 : decode cX4_worst 112 = .ok (.invokevirtual 63, 3) := by decide +kernel
theorem dX4_worst_115 : decode cX4_worst 115 = .ok (.aload_n 0, 1) := by decide +kernel
theorem dX4_worst_116 : decode cX4_worst 116 = .ok (.getfield 16, 3) := by decide +kernel
theorem dX4_worst_119 : decode cX4_worst 119 = .ok (.iload_n 3, 1) := by decide +kernel
theorem dX4_worst_120 : decode cX4_worst 120 = .ok (.imul, 1) := by decide +kernel
theorem dX4_worst_121 : decode cX4_worst 121 = .ok (.iload_n 1, 1) := by decide +kernel
theorem dX4_worst_122 : decode cX4_worst 122 = .ok (.invokestatic 69, 3) := by decide +kernel
theorem dX4_worst_125 : decode cX4_worst 125 = .ok (.ireturn, 1) := by decide +kernel
theorem dX4_mean_0 : decode cX4_mean 0 = .ok (.aload_n 0, 1) := by decide +kernel
theorem dX4_mean_1 : decode cX4_mean 1 = .ok (.iconst (-1), 1) := by decide +kernel
theorem dX4_mean_2 : decode cX4_mean 2 = .ok (.invokevirtual 73, 3) := by decide +kernel
theorem dX4_mean_5 : decode cX4_mean 5 = .ok (.ifCond .le 6, 3) := by decide +kernel
theorem dX4_mean_8 : decode cX4_mean 8 = .ok (.bipush (-3), 2) := by decide +kernel
theorem dX4_mean_10 : decode cX4_mean 10 = .ok (.ireturn, 1) := by decide +kernel
theorem dX4_mean_11 : decode cX4_mean 11 = .ok (.iconst 0, 1) := by decide +kernel
theorem dX4_mean_12 : decode cX4_mean 12 = .ok (.istore_n 1, 1) := by decide +kernel
theorem dX4_mean_13 : decode cX4_mean 13 = .ok (.iconst 0, 1) := by decide +kernel
theorem dX4_mean_14 : decode cX4_mean 14 = .ok (.istore_n 2, 1) := by decide +kernel
theorem dX4_mean_15 : decode cX4_mean 15 = .ok (.iload_n 2, 1) := by decide +kernel
theorem dX4_mean_16 : decode cX4_mean 16 = .ok (.aload_n 0, 1) := by decide +kernel
theorem dX4_mean_17 : decode cX4_mean 17 = .ok (.getfield 7, 3) := by decide +kernel
theorem dX4_mean_20 : decode cX4_mean 20 = .ok (.if_icmp .ge 46, 3) := by decide +kernel
theorem dX4_mean_23 : decode cX4_mean 23 = .ok (.iconst 1, 1) := by decide +kernel
theorem dX4_mean_24 : decode cX4_mean 24 = .ok (.istore_n 3, 1) := by decide +kernel
theorem dX4_mean_25 : decode cX4_mean 25 = .ok (.iload_n 3, 1) := by decide +kernel
theorem dX4_mean_26 : decode cX4_mean 26 = .ok (.aload_n 0, 1) := by decide +kernel
theorem dX4_mean_27 : decode cX4_mean 27 = .ok (.getfield 13, 3) := by decide +kernel
theorem dX4_mean_30 : decode cX4_mean 30 = .ok (.if_icmp .gt 30, 3) := by decide +kernel
theorem dX4_mean_33 : decode cX4_mean 33 = .ok (.iload_n 1, 1) := by decide +kernel
theorem dX4_mean_34 : decode cX4_mean 34 = .ok (.aload_n 0, 1) := by decide +kernel
theorem dX4_mean_35 : decode cX4_mean 35 = .ok (.getfield 22, 3) := by decide +kernel
theorem dX4_mean_38 : decode cX4_mean 38 = .ok (.bipush 9, 2) := by decide +kernel
theorem dX4_mean_40 : decode cX4_mean 40 = .ok (.iload_n 2, 1) := by decide +kernel
theorem dX4_mean_41 : decode cX4_mean 41 = .ok (.imul, 1) := by decide +kernel
theorem dX4_mean_42 : decode cX4_mean 42 = .ok (.iload_n 3, 1) := by decide +kernel
theorem dX4_mean_43 : decode cX4_mean 43 = .ok (.iadd, 1) := by decide +kernel
theorem dX4_mean_44 : decode cX4_mean 44 = .ok (.iaload, 1) := by decide +kernel
theorem dX4_mean_45 : decode cX4_mean 45 = .ok (.aload_n 0, 1) := by decide +kernel
theorem dX4_mean_46 : decode cX4_mean 46 = .ok (.iload_n 2, 1) := by decide +kernel
theorem dX4_mean_47 : decode cX4_mean 47 = .ok (.iload_n 3, 1) := by decide +kernel
theorem dX4_mean_48 : decode cX4_mean 48 = .ok (.invokevirtual 63, 3) := by decide +kernel
theorem dX4_mean_51 : decode cX4_mean 51 = .ok (.imul, 1) := by decide +kernel
theorem dX4_mean_52 : decode cX4_mean 52 = .ok (.iadd, 1) := by decide +kernel
theorem dX4_mean_53 : decode cX4_mean 53 = .ok (.istore_n 1, 1) := by decide +kernel
theorem dX4_mean_54 : decode cX4_mean 54 = .ok (.iinc 3 1, 3) := by decide +kernel
theorem dX4_mean_57 : decode cX4_mean 57 = .ok (.goto (-32), 3) := by decide +kernel
theorem dX4_mean_60 : decode cX4_mean 60 = .ok (.iinc 2 1, 3) := by decide +kernel
theorem dX4_mean_63 : decode cX4_mean 63 = .ok (.goto (-48), 3) := by decide +kernel
theorem dX4_mean_66 : decode cX4_mean 66 = .ok (.iload_n 1, 1) := by decide +kernel
theorem dX4_mean_67 : decode cX4_mean 67 = .ok (.ireturn, 1) := by decide +kernel
theorem dX4_missed_0 : decode cX4_missed 0 = .ok (.aload_n 0, 1) := by decide +kernel
theorem dX4_missed_1 : decode cX4_missed 1 = .ok (.iload_n 1, 1) := by decide +kernel
theorem dX4_missed_2 : decode cX4_missed 2 = .ok (.invokevirtual 73, 3) := by decide +kernel
theorem dX4_missed_5 : decode cX4_missed 5 = .ok (.ireturn, 1) := by decide +kernel
theorem dX4_finds_0 : decode cX4_finds 0 = .ok (.iload_n 1, 1) := by decide +kernel
theorem dX4_finds_1 : decode cX4_finds 1 = .ok (.iconst 0, 1) := by decide +kernel
theorem dX4_finds_2 : decode cX4_finds 2 = .ok (.aload_n 0, 1) := by decide +kernel
theorem dX4_finds_3 : decode cX4_finds 3 = .ok (.getfield 44, 3) := by decide +kernel
theorem dX4_finds_6 : decode cX4_finds 6 = .ok (.iconst 1, 1) := by decide +kernel
theorem dX4_finds_7 : decode cX4_finds 7 = .ok (.isub, 1) := by decide +kernel
theorem dX4_finds_8 : decode cX4_finds 8 = .ok (.invokestatic 47, 3) := by decide +kernel
theorem dX4_finds_11 : decode cX4_finds 11 = .ok (.ifCond .ne 5, 3) := by decide +kernel
theorem dX4_finds_14 : decode cX4_finds 14 = .ok (.iconst (-1), 1) := by decide +kernel
theorem dX4_finds_15 : decode cX4_finds 15 = .ok (.ireturn, 1) := by decide +kernel
theorem dX4_finds_16 : decode cX4_finds 16 = .ok (.iconst 0, 1) := by decide +kernel
theorem dX4_finds_17 : decode cX4_finds 17 = .ok (.istore_n 2, 1) := by decide +kernel
theorem dX4_finds_18 : decode cX4_finds 18 = .ok (.iconst 0, 1) := by decide +kernel
theorem dX4_finds_19 : decode cX4_finds 19 = .ok (.istore_n 3, 1) := by decide +kernel
theorem dX4_finds_20 : decode cX4_finds 20 = .ok (.iload_n 3, 1) := by decide +kernel
theorem dX4_finds_21 : decode cX4_finds 21 = .ok (.iload_n 1, 1) := by decide +kernel
theorem dX4_finds_22 : decode cX4_finds 22 = .ok (.if_icmp .ge 45, 3) := by decide +kernel
theorem dX4_finds_25 : decode cX4_finds 25 = .ok (.aload_n 0, 1) := by decide +kernel
theorem dX4_finds_26 : decode cX4_finds 26 = .ok (.getfield 26, 3) := by decide +kernel
theorem dX4_finds_29 : decode cX4_finds 29 = .ok (.iload_n 3, 1) := by decide +kernel
theorem dX4_finds_30 : decode cX4_finds 30 = .ok (.iaload, 1) := by decide +kernel
theorem dX4_finds_31 : decode cX4_finds 31 = .ok (.aload_n 0, 1) := by decide +kernel
theorem dX4_finds_32 : decode cX4_finds 32 = .ok (.getfield 26, 3) := by decide +kernel
theorem dX4_finds_35 : decode cX4_finds 35 = .ok (.iload_n 1, 1) := by decide +kernel
theorem dX4_finds_36 : decode cX4_finds 36 = .ok (.iaload, 1) := by decide +kernel
theorem dX4_finds_37 : decode cX4_finds 37 = .ok (.if_icmp .ne 22, 3) := by decide +kernel
theorem dX4_finds_40 : decode cX4_finds 40 = .ok (.aload_n 0, 1) := by decide +kernel
theorem dX4_finds_41 : decode cX4_finds 41 = .ok (.getfield 29, 3) := by decide +kernel
theorem dX4_finds_44 : decode cX4_finds 44 = .ok (.iload_n 3, 1) := by decide +kernel
theorem dX4_finds_45 : decode cX4_finds 45 = .ok (.iaload, 1) := by decide +kernel
theorem dX4_finds_46 : decode cX4_finds 46 = .ok (.iload_n 2, 1) := by decide +kernel
theorem dX4_finds_47 : decode cX4_finds 47 = .ok (.if_icmp .le 12, 3) := by decide +kernel
theorem dX4_finds_50 : decode cX4_finds 50 = .ok (.aload_n 0, 1) := by decide +kernel
theorem dX4_finds_51 : decode cX4_finds 51 = .ok (.getfield 29, 3) := by decide +kernel
theorem dX4_finds_54 : decode cX4_finds 54 = .ok (.iload_n 3, 1) := by decide +kernel
theorem dX4_finds_55 : decode cX4_finds 55 = .ok (.iaload, 1) := by decide +kernel
theorem dX4_finds_56 : decode cX4_finds 56 = .ok (.goto 4, 3) := by decide +kernel
theorem dX4_finds_59 : decode cX4_finds 59 = .ok (.iload_n 2, 1) := by decide +kernel
theorem dX4_finds_60 : decode cX4_finds 60 = .ok (.istore_n 2, 1) := by decide +kernel
theorem dX4_finds_61 : decode cX4_finds 61 = .ok (.iinc 3 1, 3) := by decide +kernel
theorem dX4_finds_64 : decode cX4_finds 64 = .ok (.goto (-44), 3) := by decide +kernel
theorem dX4_finds_67 : decode cX4_finds 67 = .ok (.aload_n 0, 1) := by decide +kernel
theorem dX4_finds_68 : decode cX4_finds 68 = .ok (.getfield 29, 3) := by decide +kernel
theorem dX4_finds_71 : decode cX4_finds 71 = .ok (.iload_n 1, 1) := by decide +kernel
theorem dX4_finds_72 : decode cX4_finds 72 = .ok (.iaload, 1) := by decide +kernel
theorem dX4_finds_73 : decode cX4_finds 73 = .ok (.iload_n 2, 1) := by decide +kernel
theorem dX4_finds_74 : decode cX4_finds 74 = .ok (.if_icmp .le 19, 3) := by decide +kernel
theorem dX4_finds_77 : decode cX4_finds 77 = .ok (.bipush 10, 2) := by decide +kernel
theorem dX4_finds_79 : decode cX4_finds 79 = .ok (.aload_n 0, 1) := by decide +kernel
theorem dX4_finds_80 : decode cX4_finds 80 = .ok (.getfield 26, 3) := by decide +kernel
theorem dX4_finds_83 : decode cX4_finds 83 = .ok (.iload_n 1, 1) := by decide +kernel
theorem dX4_finds_84 : decode cX4_finds 84 = .ok (.iaload, 1) := by decide +kernel
theorem dX4_finds_85 : decode cX4_finds 85 = .ok (.imul, 1) := by decide +kernel
theorem dX4_finds_86 : decode cX4_finds 86 = .ok (.iload_n 2, 1) := by decide +kernel
theorem dX4_finds_87 : decode cX4_finds 87 = .ok (.iadd, 1) := by decide +kernel
theorem dX4_finds_88 : decode cX4_finds 88 = .ok (.iconst 1, 1) := by decide +kernel
theorem dX4_finds_89 : decode cX4_finds 89 = .ok (.iadd, 1) := by decide +kernel
theorem dX4_finds_90 : decode cX4_finds 90 = .ok (.goto 5, 3) := by decide +kernel
theorem dX4_finds_93 : decode cX4_finds 93 = .ok (.bipush (-6), 2) := by decide +kernel
theorem dX4_finds_95 : decode cX4_finds 95 = .ok (.ireturn, 1) := by decide +kernel
theorem dX4_nines_0 : decode cX4_nines 0 = .ok (.iload_n 0, 1) := by decide +kernel
theorem dX4_nines_1 : decode cX4_nines 1 = .ok (.ifCond .ne 7, 3) := by decide +kernel
theorem dX4_nines_4 : decode cX4_nines 4 = .ok (.iconst 1, 1) := by decide +kernel
theorem dX4_nines_5 : decode cX4_nines 5 = .ok (.goto 15, 3) := by decide +kernel
theorem dX4_nines_8 : decode cX4_nines 8 = .ok (.iload_n 0, 1) := by decide +kernel
theorem dX4_nines_9 : decode cX4_nines 9 = .ok (.iconst 1, 1) := by decide +kernel
theorem dX4_nines_10 : decode cX4_nines 10 = .ok (.if_icmp .ne 8, 3) := by decide +kernel
theorem dX4_nines_13 : decode cX4_nines 13 = .ok (.bipush 9, 2) := by decide +kernel
theorem dX4_nines_15 : decode cX4_nines 15 = .ok (.goto 5, 3) := by decide +kernel
theorem dX4_nines_18 : decode cX4_nines 18 = .ok (.bipush 81, 2) := by decide +kernel
theorem dX4_nines_20 : decode cX4_nines 20 = .ok (.ireturn, 1) := by decide +kernel
theorem dX4_gone_0 : decode cX4_gone 0 = .ok (.iload_n 0, 1) := by decide +kernel
theorem dX4_gone_1 : decode cX4_gone 1 = .ok (.iload_n 1, 1) := by decide +kernel
theorem dX4_gone_2 : decode cX4_gone 2 = .ok (.invokestatic 76, 3) := by decide +kernel
theorem dX4_gone_5 : decode cX4_gone 5 = .ok (.idiv, 1) := by decide +kernel
theorem dX4_gone_6 : decode cX4_gone 6 = .ok (.bipush 9, 2) := by decide +kernel
theorem dX4_gone_8 : decode cX4_gone 8 = .ok (.irem, 1) := by decide +kernel
theorem dX4_gone_9 : decode cX4_gone 9 = .ok (.ireturn, 1) := by decide +kernel
theorem dX4_lastState_0 : decode cX4_lastState 0 = .ok (.aload_n 0, 1) := by decide +kernel
theorem dX4_lastState_1 : decode cX4_lastState 1 = .ok (.getfield 13, 3) := by decide +kernel
theorem dX4_lastState_4 : decode cX4_lastState 4 = .ok (.bipush 9, 2) := by decide +kernel
theorem dX4_lastState_6 : decode cX4_lastState 6 = .ok (.aload_n 0, 1) := by decide +kernel
theorem dX4_lastState_7 : decode cX4_lastState 7 = .ok (.getfield 13, 3) := by decide +kernel
theorem dX4_lastState_10 : decode cX4_lastState 10 = .ok (.imul, 1) := by decide +kernel
theorem dX4_lastState_11 : decode cX4_lastState 11 = .ok (.iadd, 1) := by decide +kernel
theorem dX4_lastState_12 : decode cX4_lastState 12 = .ok (.aload_n 0, 1) := by decide +kernel
theorem dX4_lastState_13 : decode cX4_lastState 13 = .ok (.getfield 7, 3) := by decide +kernel
theorem dX4_lastState_16 : decode cX4_lastState 16 = .ok (.iconst 3, 1) := by decide +kernel
theorem dX4_lastState_17 : decode cX4_lastState 17 = .ok (.if_icmp .ne 13, 3) := by decide +kernel
theorem dX4_lastState_20 : decode cX4_lastState 20 = .ok (.bipush 81, 2) := by decide +kernel
theorem dX4_lastState_22 : decode cX4_lastState 22 = .ok (.aload_n 0, 1) := by decide +kernel
theorem dX4_lastState_23 : decode cX4_lastState 23 = .ok (.getfield 13, 3) := by decide +kernel
theorem dX4_lastState_26 : decode cX4_lastState 26 = .ok (.imul, 1) := by decide +kernel
theorem dX4_lastState_27 : decode cX4_lastState 27 = .ok (.goto 4, 3) := by decide +kernel
theorem dX4_lastState_30 : decode cX4_lastState 30 = .ok (.iconst 0, 1) := by decide +kernel
theorem dX4_lastState_31 : decode cX4_lastState 31 = .ok (.iadd, 1) := by decide +kernel
theorem dX4_lastState_32 : decode cX4_lastState 32 = .ok (.ireturn, 1) := by decide +kernel
theorem dX4_isState_0 : decode cX4_isState 0 = .ok (.aload_n 0, 1) := by decide +kernel
theorem dX4_isState_1 : decode cX4_isState 1 = .ok (.getfield 7, 3) := by decide +kernel
theorem dX4_isState_4 : decode cX4_isState 4 = .ok (.iconst 3, 1) := by decide +kernel
theorem dX4_isState_5 : decode cX4_isState 5 = .ok (.if_icmp .eq 9, 3) := by decide +kernel
theorem dX4_isState_8 : decode cX4_isState 8 = .ok (.iload_n 1, 1) := by decide +kernel
theorem dX4_isState_9 : decode cX4_isState 9 = .ok (.bipush 81, 2) := by decide +kernel
theorem dX4_isState_11 : decode cX4_isState 11 = .ok (.if_icmp .ge 7, 3) := by decide +kernel
theorem dX4_isState_14 : decode cX4_isState 14 = .ok (.iconst 1, 1) := by decide +kernel
theorem dX4_isState_15 : decode cX4_isState 15 = .ok (.goto 4, 3) := by decide +kernel
theorem dX4_isState_18 : decode cX4_isState 18 = .ok (.iconst 0, 1) := by decide +kernel
theorem dX4_isState_19 : decode cX4_isState 19 = .ok (.istore_n 2, 1) := by decide +kernel
theorem dX4_isState_20 : decode cX4_isState 20 = .ok (.iconst 0, 1) := by decide +kernel
theorem dX4_isState_21 : decode cX4_isState 21 = .ok (.istore_n 3, 1) := by decide +kernel
theorem dX4_isState_22 : decode cX4_isState 22 = .ok (.iload_n 3, 1) := by decide +kernel
theorem dX4_isState_23 : decode cX4_isState 23 = .ok (.iconst 3, 1) := by decide +kernel
theorem dX4_isState_24 : decode cX4_isState 24 = .ok (.if_icmp .ge 31, 3) := by decide +kernel
theorem dX4_isState_27 : decode cX4_isState 27 = .ok (.iload_n 2, 1) := by decide +kernel
theorem dX4_isState_28 : decode cX4_isState 28 = .ok (.ifCond .eq 19, 3) := by decide +kernel
theorem dX4_isState_31 : decode cX4_isState 31 = .ok (.iload_n 1, 1) := by decide +kernel
theorem dX4_isState_32 : decode cX4_isState 32 = .ok (.iload_n 3, 1) := by decide +kernel
theorem dX4_isState_33 : decode cX4_isState 33 = .ok (.invokestatic 79, 3) := by decide +kernel
theorem dX4_isState_36 : decode cX4_isState 36 = .ok (.aload_n 0, 1) := by decide +kernel
theorem dX4_isState_37 : decode cX4_isState 37 = .ok (.getfield 13, 3) := by decide +kernel
theorem dX4_isState_40 : decode cX4_isState 40 = .ok (.if_icmp .gt 7, 3) := by decide +kernel
theorem dX4_isState_43 : decode cX4_isState 43 = .ok (.iconst 1, 1) := by decide +kernel
theorem dX4_isState_44 : decode cX4_isState 44 = .ok (.goto 4, 3) := by decide +kernel
theorem dX4_isState_47 : decode cX4_isState 47 = .ok (.iconst 0, 1) := by decide +kernel
theorem dX4_isState_48 : decode cX4_isState 48 = .ok (.istore_n 2, 1) := by decide +kernel
theorem dX4_isState_49 : decode cX4_isState 49 = .ok (.iinc 3 1, 3) := by decide +kernel
theorem dX4_isState_52 : decode cX4_isState 52 = .ok (.goto (-30), 3) := by decide +kernel
theorem dX4_isState_55 : decode cX4_isState 55 = .ok (.iload_n 2, 1) := by decide +kernel
theorem dX4_isState_56 : decode cX4_isState 56 = .ok (.ireturn, 1) := by decide +kernel
theorem dX4_rest_0 : decode cX4_rest 0 = .ok (.iconst 0, 1) := by decide +kernel
theorem dX4_rest_1 : decode cX4_rest 1 = .ok (.istore_n 2, 1) := by decide +kernel
theorem dX4_rest_2 : decode cX4_rest 2 = .ok (.iconst 0, 1) := by decide +kernel
theorem dX4_rest_3 : decode cX4_rest 3 = .ok (.istore_n 3, 1) := by decide +kernel
theorem dX4_rest_4 : decode cX4_rest 4 = .ok (.iload_n 3, 1) := by decide +kernel
theorem dX4_rest_5 : decode cX4_rest 5 = .ok (.aload_n 0, 1) := by decide +kernel
theorem dX4_rest_6 : decode cX4_rest 6 = .ok (.getfield 7, 3) := by decide +kernel
theorem dX4_rest_9 : decode cX4_rest 9 = .ok (.if_icmp .ge 48, 3) := by decide +kernel
theorem dX4_rest_12 : decode cX4_rest 12 = .ok (.iload_n 1, 1) := by decide +kernel
theorem dX4_rest_13 : decode cX4_rest 13 = .ok (.iload_n 3, 1) := by decide +kernel
theorem dX4_rest_14 : decode cX4_rest 14 = .ok (.invokestatic 79, 3) := by decide +kernel
theorem dX4_rest_17 : decode cX4_rest 17 = .ok (.iconst 1, 1) := by decide +kernel
theorem dX4_rest_18 : decode cX4_rest 18 = .ok (.iadd, 1) := by decide +kernel
theorem dX4_rest_19 : decode cX4_rest 19 = .ok (.istore 4, 2) := by decide +kernel
theorem dX4_rest_21 : decode cX4_rest 21 = .ok (.iload 4, 2) := by decide +kernel
theorem dX4_rest_23 : decode cX4_rest 23 = .ok (.aload_n 0, 1) := by decide +kernel
theorem dX4_rest_24 : decode cX4_rest 24 = .ok (.getfield 13, 3) := by decide +kernel
theorem dX4_rest_27 : decode cX4_rest 27 = .ok (.if_icmp .gt 24, 3) := by decide +kernel
theorem dX4_rest_30 : decode cX4_rest 30 = .ok (.iload_n 2, 1) := by decide +kernel
theorem dX4_rest_31 : decode cX4_rest 31 = .ok (.aload_n 0, 1) := by decide +kernel
theorem dX4_rest_32 : decode cX4_rest 32 = .ok (.getfield 22, 3) := by decide +kernel
theorem dX4_rest_35 : decode cX4_rest 35 = .ok (.bipush 9, 2) := by decide +kernel
theorem dX4_rest_37 : decode cX4_rest 37 = .ok (.iload_n 3, 1) := by decide +kernel
theorem dX4_rest_38 : decode cX4_rest 38 = .ok (.imul, 1) := by decide +kernel
theorem dX4_rest_39 : decode cX4_rest 39 = .ok (.iload 4, 2) := by decide +kernel
theorem dX4_rest_41 : decode cX4_rest 41 = .ok (.iadd, 1) := by decide +kernel
theorem dX4_rest_42 : decode cX4_rest 42 = .ok (.iaload, 1) := by decide +kernel
theorem dX4_rest_43 : decode cX4_rest 43 = .ok (.iadd, 1) := by decide +kernel
theorem dX4_rest_44 : decode cX4_rest 44 = .ok (.istore_n 2, 1) := by decide +kernel
theorem dX4_rest_45 : decode cX4_rest 45 = .ok (.iinc 4 1, 3) := by decide +kernel
theorem dX4_rest_48 : decode cX4_rest 48 = .ok (.goto (-27), 3) := by decide +kernel
theorem dX4_rest_51 : decode cX4_rest 51 = .ok (.iinc 3 1, 3) := by decide +kernel
theorem dX4_rest_54 : decode cX4_rest 54 = .ok (.goto (-50), 3) := by decide +kernel
theorem dX4_rest_57 : decode cX4_rest 57 = .ok (.iload_n 2, 1) := by decide +kernel
theorem dX4_rest_58 : decode cX4_rest 58 = .ok (.ireturn, 1) := by decide +kernel
theorem dX4_adds_0 : decode cX4_adds 0 = .ok (.iload_n 2, 1) := by decide +kernel
theorem dX4_adds_1 : decode cX4_adds 1 = .ok (.aload_n 0, 1) := by decide +kernel
theorem dX4_adds_2 : decode cX4_adds 2 = .ok (.getfield 16, 3) := by decide +kernel
theorem dX4_adds_5 : decode cX4_adds 5 = .ok (.aload_n 0, 1) := by decide +kernel
theorem dX4_adds_6 : decode cX4_adds 6 = .ok (.getfield 19, 3) := by decide +kernel
theorem dX4_adds_9 : decode cX4_adds 9 = .ok (.iadd, 1) := by decide +kernel
theorem dX4_adds_10 : decode cX4_adds 10 = .ok (.imul, 1) := by decide +kernel
theorem dX4_adds_11 : decode cX4_adds 11 = .ok (.aload_n 0, 1) := by decide +kernel
theorem dX4_adds_12 : decode cX4_adds 12 = .ok (.iload_n 1, 1) := by decide +kernel
theorem dX4_adds_13 : decode cX4_adds 13 = .ok (.invokevirtual 82, 3) := by decide +kernel
theorem dX4_adds_16 : decode cX4_adds 16 = .ok (.imul, 1) := by decide +kernel
theorem dX4_adds_17 : decode cX4_adds 17 = .ok (.ireturn, 1) := by decide +kernel
theorem dX4_layLeast_0 : decode cX4_layLeast 0 = .ok (.aload_n 0, 1) := by decide +kernel
theorem dX4_layLeast_1 : decode cX4_layLeast 1 = .ok (.invokevirtual 85, 3) := by decide +kernel
theorem dX4_layLeast_4 : decode cX4_layLeast 4 = .ok (.istore_n 1, 1) := by decide +kernel
theorem dX4_layLeast_5 : decode cX4_layLeast 5 = .ok (.iload_n 1, 1) := by decide +kernel
theorem dX4_layLeast_6 : decode cX4_layLeast 6 = .ok (.ifCond .lt 136, 3) := by decide +kernel
theorem dX4_layLeast_9 : decode cX4_layLeast 9 = .ok (.aload_n 0, 1) := by decide +kernel
theorem dX4_layLeast_10 : decode cX4_layLeast 10 = .ok (.iload_n 1, 1) := by decide +kernel
theorem dX4_layLeast_11 : decode cX4_layLeast 11 = .ok (.invokevirtual 89, 3) := by decide +kernel
theorem dX4_layLeast_14 : decode cX4_layLeast 14 = .ok (.ifCond .eq 122, 3) := by decide +kernel
theorem dX4_layLeast_17 : decode cX4_layLeast 17 = .ok (.aload_n 0, 1) := by decide +kernel
theorem dX4_layLeast_18 : decode cX4_layLeast 18 = .ok (.getfield 32, 3) := by decide +kernel
theorem dX4_layLeast_21 : decode cX4_layLeast 21 = .ok (.iload_n 1, 1) := by decide +kernel
theorem dX4_layLeast_22 : decode cX4_layLeast 22 = .ok (.iload_n 1, 1) := by decide +kernel
theorem dX4_layLeast_23 : decode cX4_layLeast 23 = .ok (.aload_n 0, 1) := by decide +kernel
theorem dX4_layLeast_24 : decode cX4_layLeast 24 = .ok (.invokevirtual 85, 3) := by decide +kernel
theorem dX4_layLeast_27 : decode cX4_layLeast 27 = .ok (.if_icmp .ne 7, 3) := by decide +kernel
theorem dX4_layLeast_30 : decode cX4_layLeast 30 = .ok (.iconst 0, 1) := by decide +kernel
theorem dX4_layLeast_31 : decode cX4_layLeast 31 = .ok (.goto 5, 3) := by decide +kernel
theorem dX4_layLeast_34 : decode cX4_layLeast 34 = .ok (.ldc 93, 2) := by decide +kernel
theorem dX4_layLeast_36 : decode cX4_layLeast 36 = .ok (.iastore, 1) := by decide +kernel
theorem dX4_layLeast_37 : decode cX4_layLeast 37 = .ok (.iconst 0, 1) := by decide +kernel
theorem dX4_layLeast_38 : decode cX4_layLeast 38 = .ok (.istore_n 2, 1) := by decide +kernel
theorem dX4_layLeast_39 : decode cX4_layLeast 39 = .ok (.iload_n 2, 1) := by decide +kernel
theorem dX4_layLeast_40 : decode cX4_layLeast 40 = .ok (.aload_n 0, 1) := by decide +kernel
theorem dX4_layLeast_41 : decode cX4_layLeast 41 = .ok (.getfield 7, 3) := by decide +kernel
theorem dX4_layLeast_44 : decode cX4_layLeast 44 = .ok (.if_icmp .ge 92, 3) := by decide +kernel
theorem dX4_layLeast_47 : decode cX4_layLeast 47 = .ok (.iload_n 1, 1) := by decide +kernel
theorem dX4_layLeast_48 : decode cX4_layLeast 48 = .ok (.iload_n 2, 1) := by decide +kernel
theorem dX4_layLeast_49 : decode cX4_layLeast 49 = .ok (.invokestatic 79, 3) := by decide +kernel
theorem dX4_layLeast_52 : decode cX4_layLeast 52 = .ok (.iconst 1, 1) := by decide +kernel
theorem dX4_layLeast_53 : decode cX4_layLeast 53 = .ok (.iadd, 1) := by decide +kernel
theorem dX4_layLeast_54 : decode cX4_layLeast 54 = .ok (.istore_n 3, 1) := by decide +kernel
theorem dX4_layLeast_55 : decode cX4_layLeast 55 = .ok (.iload_n 3, 1) := by decide +kernel
theorem dX4_layLeast_56 : decode cX4_layLeast 56 = .ok (.aload_n 0, 1) := by decide +kernel
theorem dX4_layLeast_57 : decode cX4_layLeast 57 = .ok (.getfield 13, 3) := by decide +kernel
theorem dX4_layLeast_60 : decode cX4_layLeast 60 = .ok (.if_icmp .gt 70, 3) := by decide +kernel
theorem dX4_layLeast_63 : decode cX4_layLeast 63 = .ok (.iload_n 1, 1) := by decide +kernel
theorem dX4_layLeast_64 : decode cX4_layLeast 64 = .ok (.iload_n 3, 1) := by decide +kernel
theorem dX4_layLeast_65 : decode cX4_layLeast 65 = .ok (.iload_n 1, 1) := by decide +kernel
theorem dX4_layLeast_66 : decode cX4_layLeast 66 = .ok (.iload_n 2, 1) := by decide +kernel
theorem dX4_layLeast_67 : decode cX4_layLeast 67 = .ok (.invokestatic 79, 3) := by decide +kernel
theorem dX4_layLeast_70 : decode cX4_layLeast 70 = .ok (.isub, 1) := by decide +kernel
theorem dX4_layLeast_71 : decode cX4_layLeast 71 = .ok (.iload_n 2, 1) := by decide +kernel
theorem dX4_layLeast_72 : decode cX4_layLeast 72 = .ok (.invokestatic 76, 3) := by decide +kernel
theorem dX4_layLeast_75 : decode cX4_layLeast 75 = .ok (.imul, 1) := by decide +kernel
theorem dX4_layLeast_76 : decode cX4_layLeast 76 = .ok (.iadd, 1) := by decide +kernel
theorem dX4_layLeast_77 : decode cX4_layLeast 77 = .ok (.istore 4, 2) := by decide +kernel
theorem dX4_layLeast_79 : decode cX4_layLeast 79 = .ok (.aload_n 0, 1) := by decide +kernel
theorem dX4_layLeast_80 : decode cX4_layLeast 80 = .ok (.iload 4, 2) := by decide +kernel
theorem dX4_layLeast_82 : decode cX4_layLeast 82 = .ok (.iload_n 3, 1) := by decide +kernel
theorem dX4_layLeast_83 : decode cX4_layLeast 83 = .ok (.invokevirtual 94, 3) := by decide +kernel
theorem dX4_layLeast_86 : decode cX4_layLeast 86 = .ok (.aload_n 0, 1) := by decide +kernel
theorem dX4_layLeast_87 : decode cX4_layLeast 87 = .ok (.getfield 32, 3) := by decide +kernel
theorem dX4_layLeast_90 : decode cX4_layLeast 90 = .ok (.iload 4, 2) := by decide +kernel
theorem dX4_layLeast_92 : decode cX4_layLeast 92 = .ok (.iaload, 1) := by decide +kernel
theorem dX4_layLeast_93 : decode cX4_layLeast 93 = .ok (.iadd, 1) := by decide +kernel
theorem dX4_layLeast_94 : decode cX4_layLeast 94 = .ok (.istore 5, 2) := by decide +kernel
theorem dX4_layLeast_96 : decode cX4_layLeast 96 = .ok (.aload_n 0, 1) := by decide +kernel
theorem dX4_layLeast_97 : decode cX4_layLeast 97 = .ok (.getfield 32, 3) := by decide +kernel
theorem dX4_layLeast_100 : decode cX4_layLeast 100 = .ok (.iload_n 1, 1) := by decide +kernel
theorem dX4_layLeast_101 : decode cX4_layLeast 101 = .ok (.iload 5, 2) := by decide +kernel
theorem dX4_layLeast_103 : decode cX4_layLeast 103 = .ok (.aload_n 0, 1) := by decide +kernel
theorem dX4_layLeast_104 : decode cX4_layLeast 104 = .ok (.getfield 32, 3) := by decide +kernel
theorem dX4_layLeast_107 : decode cX4_layLeast 107 = .ok (.iload_n 1, 1) := by decide +kernel
theorem dX4_layLeast_108 : decode cX4_layLeast 108 = .ok (.iaload, 1) := by decide +kernel
theorem dX4_layLeast_109 : decode cX4_layLeast 109 = .ok (.if_icmp .ge 8, 3) := by decide +kernel
theorem dX4_layLeast_112 : decode cX4_layLeast 112 = .ok (.iload 5, 2) := by decide +kernel
theorem dX4_layLeast_114 : decode cX4_layLeast 114 = .ok (.goto 9, 3) := by decide +kernel
theorem dX4_layLeast_117 : decode cX4_layLeast 117 = .ok (.aload_n 0, 1) := by decide +kernel
theorem dX4_layLeast_118 : decode cX4_layLeast 118 = .ok (.getfield 32, 3) := by decide +kernel
theorem dX4_layLeast_121 : decode cX4_layLeast 121 = .ok (.iload_n 1, 1) := by decide +kernel
theorem dX4_layLeast_122 : decode cX4_layLeast 122 = .ok (.iaload, 1) := by decide +kernel
theorem dX4_layLeast_123 : decode cX4_layLeast 123 = .ok (.iastore, 1) := by decide +kernel
theorem dX4_layLeast_124 : decode cX4_layLeast 124 = .ok (.iinc 3 1, 3) := by decide +kernel
theorem dX4_layLeast_127 : decode cX4_layLeast 127 = .ok (.goto (-72), 3) := by decide +kernel
theorem dX4_layLeast_130 : decode cX4_layLeast 130 = .ok (.iinc 2 1, 3) := by decide +kernel
theorem dX4_layLeast_133 : decode cX4_layLeast 133 = .ok (.goto (-94), 3) := by decide +kernel
theorem dX4_layLeast_136 : decode cX4_layLeast 136 = .ok (.iinc 1 (-1), 3) := by decide +kernel
theorem dX4_layLeast_139 : decode cX4_layLeast 139 = .ok (.goto (-134), 3) := by decide +kernel
theorem dX4_layLeast_142 : decode cX4_layLeast 142 = .ok (.return_, 1) := by decide +kernel
theorem dX4_leastMean_0 : decode cX4_leastMean 0 = .ok (.aload_n 0, 1) := by decide +kernel
theorem dX4_leastMean_1 : decode cX4_leastMean 1 = .ok (.invokevirtual 97, 3) := by decide +kernel
theorem dX4_leastMean_4 : decode cX4_leastMean 4 = .ok (.aload_n 0, 1) := by decide +kernel
theorem dX4_leastMean_5 : decode cX4_leastMean 5 = .ok (.getfield 32, 3) := by decide +kernel
theorem dX4_leastMean_8 : decode cX4_leastMean 8 = .ok (.iconst 0, 1) := by decide +kernel
theorem dX4_leastMean_9 : decode cX4_leastMean 9 = .ok (.iaload, 1) := by decide +kernel
theorem dX4_leastMean_10 : decode cX4_leastMean 10 = .ok (.istore_n 1, 1) := by decide +kernel
theorem dX4_leastMean_11 : decode cX4_leastMean 11 = .ok (.iconst 0, 1) := by decide +kernel
theorem dX4_leastMean_12 : decode cX4_leastMean 12 = .ok (.istore_n 2, 1) := by decide +kernel
theorem dX4_leastMean_13 : decode cX4_leastMean 13 = .ok (.iload_n 2, 1) := by decide +kernel
theorem dX4_leastMean_14 : decode cX4_leastMean 14 = .ok (.aload_n 0, 1) := by decide +kernel
theorem dX4_leastMean_15 : decode cX4_leastMean 15 = .ok (.getfield 7, 3) := by decide +kernel
theorem dX4_leastMean_18 : decode cX4_leastMean 18 = .ok (.if_icmp .ge 46, 3) := by decide +kernel
theorem dX4_leastMean_21 : decode cX4_leastMean 21 = .ok (.iconst 1, 1) := by decide +kernel
theorem dX4_leastMean_22 : decode cX4_leastMean 22 = .ok (.istore_n 3, 1) := by decide +kernel
theorem dX4_leastMean_23 : decode cX4_leastMean 23 = .ok (.iload_n 3, 1) := by decide +kernel
theorem dX4_leastMean_24 : decode cX4_leastMean 24 = .ok (.aload_n 0, 1) := by decide +kernel
theorem dX4_leastMean_25 : decode cX4_leastMean 25 = .ok (.getfield 13, 3) := by decide +kernel
theorem dX4_leastMean_28 : decode cX4_leastMean 28 = .ok (.if_icmp .gt 30, 3) := by decide +kernel
theorem dX4_leastMean_31 : decode cX4_leastMean 31 = .ok (.iload_n 1, 1) := by decide +kernel
theorem dX4_leastMean_32 : decode cX4_leastMean 32 = .ok (.aload_n 0, 1) := by decide +kernel
theorem dX4_leastMean_33 : decode cX4_leastMean 33 = .ok (.getfield 22, 3) := by decide +kernel
theorem dX4_leastMean_36 : decode cX4_leastMean 36 = .ok (.bipush 9, 2) := by decide +kernel
theorem dX4_leastMean_38 : decode cX4_leastMean 38 = .ok (.iload_n 2, 1) := by decide +kernel
theorem dX4_leastMean_39 : decode cX4_leastMean 39 = .ok (.imul, 1) := by decide +kernel
theorem dX4_leastMean_40 : decode cX4_leastMean 40 = .ok (.iload_n 3, 1) := by decide +kernel
theorem dX4_leastMean_41 : decode cX4_leastMean 41 = .ok (.iadd, 1) := by decide +kernel
theorem dX4_leastMean_42 : decode cX4_leastMean 42 = .ok (.iaload, 1) := by decide +kernel
theorem dX4_leastMean_43 : decode cX4_leastMean 43 = .ok (.aload_n 0, 1) := by decide +kernel
theorem dX4_leastMean_44 : decode cX4_leastMean 44 = .ok (.getfield 16, 3) := by decide +kernel
theorem dX4_leastMean_47 : decode cX4_leastMean 47 = .ok (.imul, 1) := by decide +kernel
theorem dX4_leastMean_48 : decode cX4_leastMean 48 = .ok (.iload_n 3, 1) := by decide +kernel
theorem dX4_leastMean_49 : decode cX4_leastMean 49 = .ok (.imul, 1) := by decide +kernel
theorem dX4_leastMean_50 : decode cX4_leastMean 50 = .ok (.iadd, 1) := by decide +kernel
theorem dX4_leastMean_51 : decode cX4_leastMean 51 = .ok (.istore_n 1, 1) := by decide +kernel
theorem dX4_leastMean_52 : decode cX4_leastMean 52 = .ok (.iinc 3 1, 3) := by decide +kernel
theorem dX4_leastMean_55 : decode cX4_leastMean 55 = .ok (.goto (-32), 3) := by decide +kernel
theorem dX4_leastMean_58 : decode cX4_leastMean 58 = .ok (.iinc 2 1, 3) := by decide +kernel
theorem dX4_leastMean_61 : decode cX4_leastMean 61 = .ok (.goto (-48), 3) := by decide +kernel
theorem dX4_leastMean_64 : decode cX4_leastMean 64 = .ok (.iload_n 1, 1) := by decide +kernel
theorem dX4_leastMean_65 : decode cX4_leastMean 65 = .ok (.ireturn, 1) := by decide +kernel
theorem dX4_layMeanPlan_0 : decode cX4_layMeanPlan 0 = .ok (.aload_n 0, 1) := by decide +kernel
theorem dX4_layMeanPlan_1 : decode cX4_layMeanPlan 1 = .ok (.invokevirtual 97, 3) := by decide +kernel
theorem dX4_layMeanPlan_4 : decode cX4_layMeanPlan 4 = .ok (.aload_n 0, 1) := by decide +kernel
theorem dX4_layMeanPlan_5 : decode cX4_layMeanPlan 5 = .ok (.iconst 0, 1) := by decide +kernel
theorem dX4_layMeanPlan_6 : decode cX4_layMeanPlan 6 = .ok (.putfield 100, 3) := by decide +kernel
theorem dX4_layMeanPlan_9 : decode cX4_layMeanPlan 9 = .ok (.iconst 0, 1) := by decide +kernel
theorem dX4_layMeanPlan_10 : decode cX4_layMeanPlan 10 = .ok (.istore_n 1, 1) := by decide +kernel
theorem dX4_layMeanPlan_11 : decode cX4_layMeanPlan 11 = .ok (.iload_n 1, 1) := by decide +kernel
theorem dX4_layMeanPlan_12 : decode cX4_layMeanPlan 12 = .ok (.aload_n 0, 1) := by decide +kernel
theorem dX4_layMeanPlan_13 : decode cX4_layMeanPlan 13 = .ok (.invokevirtual 85, 3) := by decide +kernel
theorem dX4_layMeanPlan_16 : decode cX4_layMeanPlan 16 = .ok (.if_icmp .eq 129, 3) := by decide +kernel
theorem dX4_layMeanPlan_19 : decode cX4_layMeanPlan 19 = .ok (.iconst (-1), 1) := by decide +kernel
theorem dX4_layMeanPlan_20 : decode cX4_layMeanPlan 20 = .ok (.istore_n 2, 1) := by decide +kernel
theorem dX4_layMeanPlan_21 : decode cX4_layMeanPlan 21 = .ok (.iconst 0, 1) := by decide +kernel
theorem dX4_layMeanPlan_22 : decode cX4_layMeanPlan 22 = .ok (.istore_n 3, 1) := by decide +kernel
theorem dX4_layMeanPlan_23 : decode cX4_layMeanPlan 23 = .ok (.iload_n 3, 1) := by decide +kernel
theorem dX4_layMeanPlan_24 : decode cX4_layMeanPlan 24 = .ok (.aload_n 0, 1) := by decide +kernel
theorem dX4_layMeanPlan_25 : decode cX4_layMeanPlan 25 = .ok (.getfield 7, 3) := by decide +kernel
theorem dX4_layMeanPlan_28 : decode cX4_layMeanPlan 28 = .ok (.if_icmp .ge 102, 3) := by decide +kernel
theorem dX4_layMeanPlan_31 : decode cX4_layMeanPlan 31 = .ok (.iload_n 2, 1) := by decide +kernel
theorem dX4_layMeanPlan_32 : decode cX4_layMeanPlan 32 = .ok (.ifCond .ge 98, 3) := by decide +kernel
theorem dX4_layMeanPlan_35 : decode cX4_layMeanPlan 35 = .ok (.iload_n 1, 1) := by decide +kernel
theorem dX4_layMeanPlan_36 : decode cX4_layMeanPlan 36 = .ok (.iload_n 3, 1) := by decide +kernel
theorem dX4_layMeanPlan_37 : decode cX4_layMeanPlan 37 = .ok (.invokestatic 79, 3) := by decide +kernel
theorem dX4_layMeanPlan_40 : decode cX4_layMeanPlan 40 = .ok (.iconst 1, 1) := by decide +kernel
theorem dX4_layMeanPlan_41 : decode cX4_layMeanPlan 41 = .ok (.iadd, 1) := by decide +kernel
theorem dX4_layMeanPlan_42 : decode cX4_layMeanPlan 42 = .ok (.istore 4, 2) := by decide +kernel
theorem dX4_layMeanPlan_44 : decode cX4_layMeanPlan 44 = .ok (.iload 4, 2) := by decide +kernel
theorem dX4_layMeanPlan_46 : decode cX4_layMeanPlan 46 = .ok (.aload_n 0, 1) := by decide +kernel
theorem dX4_layMeanPlan_47 : decode cX4_layMeanPlan 47 = .ok (.getfield 13, 3) := by decide +kernel
theorem dX4_layMeanPlan_50 : decode cX4_layMeanPlan 50 = .ok (.if_icmp .gt 74, 3) := by decide +kernel
theorem dX4_layMeanPlan_53 : decode cX4_layMeanPlan 53 = .ok (.iload_n 2, 1) := by decide +kernel
theorem dX4_layMeanPlan_54 : decode cX4_layMeanPlan 54 = .ok (.ifCond .ge 70, 3) := by decide +kernel
theorem dX4_layMeanPlan_57 : decode cX4_layMeanPlan 57 = .ok (.iload_n 1, 1) := by decide +kernel
theorem dX4_layMeanPlan_58 : decode cX4_layMeanPlan 58 = .ok (.iload 4, 2) := by decide +kernel
theorem dX4_layMeanPlan_60 : decode cX4_layMeanPlan 60 = .ok (.iload_n 1, 1) := by decide +kernel
theorem dX4_layMeanPlan_61 : decode cX4_layMeanPlan 61 = .ok (.iload_n 3, 1) := by decide +kernel
theorem dX4_layMeanPlan_62 : decode cX4_layMeanPlan 62 = .ok (.invokestatic 79, 3) := by decide +kernel
theorem dX4_layMeanPlan_65 : decode cX4_layMeanPlan 65 = .ok (.isub, 1) := by decide +kernel
theorem dX4_layMeanPlan_66 : decode cX4_layMeanPlan 66 = .ok (.iload_n 3, 1) := by decide +kernel
theorem dX4_layMeanPlan_67 : decode cX4_layMeanPlan 67 = .ok (.invokestatic 76, 3) := by decide +kernel
theorem dX4_layMeanPlan_70 : decode cX4_layMeanPlan 70 = .ok (.imul, 1) := by decide +kernel
theorem dX4_layMeanPlan_71 : decode cX4_layMeanPlan 71 = .ok (.iadd, 1) := by decide +kernel
theorem dX4_layMeanPlan_72 : decode cX4_layMeanPlan 72 = .ok (.istore 5, 2) := by decide +kernel
theorem dX4_layMeanPlan_74 : decode cX4_layMeanPlan 74 = .ok (.aload_n 0, 1) := by decide +kernel
theorem dX4_layMeanPlan_75 : decode cX4_layMeanPlan 75 = .ok (.iload 5, 2) := by decide +kernel
theorem dX4_layMeanPlan_77 : decode cX4_layMeanPlan 77 = .ok (.iload 4, 2) := by decide +kernel
theorem dX4_layMeanPlan_79 : decode cX4_layMeanPlan 79 = .ok (.invokevirtual 94, 3) := by decide +kernel
theorem dX4_layMeanPlan_82 : decode cX4_layMeanPlan 82 = .ok (.aload_n 0, 1) := by decide +kernel
theorem dX4_layMeanPlan_83 : decode cX4_layMeanPlan 83 = .ok (.getfield 32, 3) := by decide +kernel
theorem dX4_layMeanPlan_86 : decode cX4_layMeanPlan 86 = .ok (.iload 5, 2) := by decide +kernel
theorem dX4_layMeanPlan_88 : decode cX4_layMeanPlan 88 = .ok (.iaload, 1) := by decide +kernel
theorem dX4_layMeanPlan_89 : decode cX4_layMeanPlan 89 = .ok (.iadd, 1) := by decide +kernel
theorem dX4_layMeanPlan_90 : decode cX4_layMeanPlan 90 = .ok (.aload_n 0, 1) := by decide +kernel
theorem dX4_layMeanPlan_91 : decode cX4_layMeanPlan 91 = .ok (.getfield 32, 3) := by decide +kernel
theorem dX4_layMeanPlan_94 : decode cX4_layMeanPlan 94 = .ok (.iload_n 1, 1) := by decide +kernel
theorem dX4_layMeanPlan_95 : decode cX4_layMeanPlan 95 = .ok (.iaload, 1) := by decide +kernel
theorem dX4_layMeanPlan_96 : decode cX4_layMeanPlan 96 = .ok (.if_icmp .ne 22, 3) := by decide +kernel
theorem dX4_layMeanPlan_99 : decode cX4_layMeanPlan 99 = .ok (.iload 5, 2) := by decide +kernel
theorem dX4_layMeanPlan_101 : decode cX4_layMeanPlan 101 = .ok (.istore_n 2, 1) := by decide +kernel
theorem dX4_layMeanPlan_102 : decode cX4_layMeanPlan 102 = .ok (.aload_n 0, 1) := by decide +kernel
theorem dX4_layMeanPlan_103 : decode cX4_layMeanPlan 103 = .ok (.getfield 38, 3) := by decide +kernel
theorem dX4_layMeanPlan_106 : decode cX4_layMeanPlan 106 = .ok (.aload_n 0, 1) := by decide +kernel
theorem dX4_layMeanPlan_107 : decode cX4_layMeanPlan 107 = .ok (.getfield 100, 3) := by decide +kernel
theorem dX4_layMeanPlan_110 : decode cX4_layMeanPlan 110 = .ok (.bipush 10, 2) := by decide +kernel
theorem dX4_layMeanPlan_112 : decode cX4_layMeanPlan 112 = .ok (.iload_n 3, 1) := by decide +kernel
theorem dX4_layMeanPlan_113 : decode cX4_layMeanPlan 113 = .ok (.imul, 1) := by decide +kernel
theorem dX4_layMeanPlan_114 : decode cX4_layMeanPlan 114 = .ok (.iload 4, 2) := by decide +kernel
theorem dX4_layMeanPlan_116 : decode cX4_layMeanPlan 116 = .ok (.iadd, 1) := by decide +kernel
theorem dX4_layMeanPlan_117 : decode cX4_layMeanPlan 117 = .ok (.iastore, 1) := by decide +kernel
theorem dX4_layMeanPlan_118 : decode cX4_layMeanPlan 118 = .ok (.iinc 4 1, 3) := by decide +kernel
theorem dX4_layMeanPlan_121 : decode cX4_layMeanPlan 121 = .ok (.goto (-77), 3) := by decide +kernel
theorem dX4_layMeanPlan_124 : decode cX4_layMeanPlan 124 = .ok (.iinc 3 1, 3) := by decide +kernel
theorem dX4_layMeanPlan_127 : decode cX4_layMeanPlan 127 = .ok (.goto (-104), 3) := by decide +kernel
theorem dX4_layMeanPlan_130 : decode cX4_layMeanPlan 130 = .ok (.aload_n 0, 1) := by decide +kernel
theorem dX4_layMeanPlan_131 : decode cX4_layMeanPlan 131 = .ok (.dup, 1) := by decide +kernel
theorem dX4_layMeanPlan_132 : decode cX4_layMeanPlan 132 = .ok (.getfield 100, 3) := by decide +kernel
theorem dX4_layMeanPlan_135 : decode cX4_layMeanPlan 135 = .ok (.iconst 1, 1) := by decide +kernel
theorem dX4_layMeanPlan_136 : decode cX4_layMeanPlan 136 = .ok (.iadd, 1) := by decide +kernel
theorem dX4_layMeanPlan_137 : decode cX4_layMeanPlan 137 = .ok (.putfield 100, 3) := by decide +kernel
theorem dX4_layMeanPlan_140 : decode cX4_layMeanPlan 140 = .ok (.iload_n 2, 1) := by decide +kernel
theorem dX4_layMeanPlan_141 : decode cX4_layMeanPlan 141 = .ok (.istore_n 1, 1) := by decide +kernel
theorem dX4_layMeanPlan_142 : decode cX4_layMeanPlan 142 = .ok (.goto (-131), 3) := by decide +kernel
theorem dX4_layMeanPlan_145 : decode cX4_layMeanPlan 145 = .ok (.return_, 1) := by decide +kernel
theorem dX4_planAt_0 : decode cX4_planAt 0 = .ok (.iload_n 1, 1) := by decide +kernel
theorem dX4_planAt_1 : decode cX4_planAt 1 = .ok (.iconst 0, 1) := by decide +kernel
theorem dX4_planAt_2 : decode cX4_planAt 2 = .ok (.aload_n 0, 1) := by decide +kernel
theorem dX4_planAt_3 : decode cX4_planAt 3 = .ok (.getfield 100, 3) := by decide +kernel
theorem dX4_planAt_6 : decode cX4_planAt 6 = .ok (.iconst 1, 1) := by decide +kernel
theorem dX4_planAt_7 : decode cX4_planAt 7 = .ok (.isub, 1) := by decide +kernel
theorem dX4_planAt_8 : decode cX4_planAt 8 = .ok (.invokestatic 47, 3) := by decide +kernel
theorem dX4_planAt_11 : decode cX4_planAt 11 = .ok (.ifCond .eq 12, 3) := by decide +kernel
theorem dX4_planAt_14 : decode cX4_planAt 14 = .ok (.aload_n 0, 1) := by decide +kernel
theorem dX4_planAt_15 : decode cX4_planAt 15 = .ok (.getfield 38, 3) := by decide +kernel
theorem dX4_planAt_18 : decode cX4_planAt 18 = .ok (.iload_n 1, 1) := by decide +kernel
theorem dX4_planAt_19 : decode cX4_planAt 19 = .ok (.iaload, 1) := by decide +kernel
theorem dX4_planAt_20 : decode cX4_planAt 20 = .ok (.goto 5, 3) := by decide +kernel
theorem dX4_planAt_23 : decode cX4_planAt 23 = .ok (.bipush (-6), 2) := by decide +kernel
theorem dX4_planAt_25 : decode cX4_planAt 25 = .ok (.ireturn, 1) := by decide +kernel
theorem dX4_meanTrip_0 : decode cX4_meanTrip 0 = .ok (.aload_n 0, 1) := by decide +kernel
theorem dX4_meanTrip_1 : decode cX4_meanTrip 1 = .ok (.invokevirtual 103, 3) := by decide +kernel
theorem dX4_meanTrip_4 : decode cX4_meanTrip 4 = .ok (.aload_n 0, 1) := by decide +kernel
theorem dX4_meanTrip_5 : decode cX4_meanTrip 5 = .ok (.iload_n 1, 1) := by decide +kernel
theorem dX4_meanTrip_6 : decode cX4_meanTrip 6 = .ok (.invokevirtual 106, 3) := by decide +kernel
theorem dX4_meanTrip_9 : decode cX4_meanTrip 9 = .ok (.ireturn, 1) := by decide +kernel
theorem dX4_layMost_0 : decode cX4_layMost 0 = .ok (.aload_n 0, 1) := by decide +kernel
theorem dX4_layMost_1 : decode cX4_layMost 1 = .ok (.invokevirtual 85, 3) := by decide +kernel
theorem dX4_layMost_4 : decode cX4_layMost 4 = .ok (.istore_n 3, 1) := by decide +kernel
theorem dX4_layMost_5 : decode cX4_layMost 5 = .ok (.iload_n 3, 1) := by decide +kernel
theorem dX4_layMost_6 : decode cX4_layMost 6 = .ok (.ifCond .lt 162, 3) := by decide +kernel
theorem dX4_layMost_9 : decode cX4_layMost 9 = .ok (.aload_n 0, 1) := by decide +kernel
theorem dX4_layMost_10 : decode cX4_layMost 10 = .ok (.iload_n 3, 1) := by decide +kernel
theorem dX4_layMost_11 : decode cX4_layMost 11 = .ok (.invokevirtual 89, 3) := by decide +kernel
theorem dX4_layMost_14 : decode cX4_layMost 14 = .ok (.ifCond .eq 148, 3) := by decide +kernel
theorem dX4_layMost_17 : decode cX4_layMost 17 = .ok (.aload_n 0, 1) := by decide +kernel
theorem dX4_layMost_18 : decode cX4_layMost 18 = .ok (.getfield 35, 3) := by decide +kernel
theorem dX4_layMost_21 : decode cX4_layMost 21 = .ok (.iload_n 3, 1) := by decide +kernel
theorem dX4_layMost_22 : decode cX4_layMost 22 = .ok (.iload_n 3, 1) := by decide +kernel
theorem dX4_layMost_23 : decode cX4_layMost 23 = .ok (.aload_n 0, 1) := by decide +kernel
theorem dX4_layMost_24 : decode cX4_layMost 24 = .ok (.invokevirtual 85, 3) := by decide +kernel
theorem dX4_layMost_27 : decode cX4_layMost 27 = .ok (.if_icmp .ne 8, 3) := by decide +kernel
theorem dX4_layMost_30 : decode cX4_layMost 30 = .ok (.ldc 109, 2) := by decide +kernel
theorem dX4_layMost_32 : decode cX4_layMost 32 = .ok (.goto 5, 3) := by decide +kernel
theorem dX4_layMost_35 : decode cX4_layMost 35 = .ok (.ldc 110, 2) := by decide +kernel
theorem dX4_layMost_37 : decode cX4_layMost 37 = .ok (.iastore, 1) := by decide +kernel
theorem dX4_layMost_38 : decode cX4_layMost 38 = .ok (.iconst 0, 1) := by decide +kernel
theorem dX4_layMost_39 : decode cX4_layMost 39 = .ok (.istore 4, 2) := by decide +kernel
theorem dX4_layMost_41 : decode cX4_layMost 41 = .ok (.iload 4, 2) := by decide +kernel
theorem dX4_layMost_43 : decode cX4_layMost 43 = .ok (.aload_n 0, 1) := by decide +kernel
theorem dX4_layMost_44 : decode cX4_layMost 44 = .ok (.getfield 7, 3) := by decide +kernel
theorem dX4_layMost_47 : decode cX4_layMost 47 = .ok (.if_icmp .ge 115, 3) := by decide +kernel
theorem dX4_layMost_50 : decode cX4_layMost 50 = .ok (.iload_n 3, 1) := by decide +kernel
theorem dX4_layMost_51 : decode cX4_layMost 51 = .ok (.iload 4, 2) := by decide +kernel
theorem dX4_layMost_53 : decode cX4_layMost 53 = .ok (.invokestatic 79, 3) := by decide +kernel
theorem dX4_layMost_56 : decode cX4_layMost 56 = .ok (.iconst 1, 1) := by decide +kernel
theorem dX4_layMost_57 : decode cX4_layMost 57 = .ok (.iadd, 1) := by decide +kernel
theorem dX4_layMost_58 : decode cX4_layMost 58 = .ok (.istore 5, 2) := by decide +kernel
theorem dX4_layMost_60 : decode cX4_layMost 60 = .ok (.iload_n 1, 1) := by decide +kernel
theorem dX4_layMost_61 : decode cX4_layMost 61 = .ok (.iload 5, 2) := by decide +kernel
theorem dX4_layMost_63 : decode cX4_layMost 63 = .ok (.imul, 1) := by decide +kernel
theorem dX4_layMost_64 : decode cX4_layMost 64 = .ok (.iload_n 2, 1) := by decide +kernel
theorem dX4_layMost_65 : decode cX4_layMost 65 = .ok (.idiv, 1) := by decide +kernel
theorem dX4_layMost_66 : decode cX4_layMost 66 = .ok (.istore 6, 2) := by decide +kernel
theorem dX4_layMost_68 : decode cX4_layMost 68 = .ok (.iload 5, 2) := by decide +kernel
theorem dX4_layMost_70 : decode cX4_layMost 70 = .ok (.istore 7, 2) := by decide +kernel
theorem dX4_layMost_72 : decode cX4_layMost 72 = .ok (.iload 7, 2) := by decide +kernel
theorem dX4_layMost_74 : decode cX4_layMost 74 = .ok (.aload_n 0, 1) := by decide +kernel
theorem dX4_layMost_75 : decode cX4_layMost 75 = .ok (.getfield 13, 3) := by decide +kernel
theorem dX4_layMost_78 : decode cX4_layMost 78 = .ok (.if_icmp .gt 78, 3) := by decide +kernel
theorem dX4_layMost_81 : decode cX4_layMost 81 = .ok (.aload_n 0, 1) := by decide +kernel
theorem dX4_layMost_82 : decode cX4_layMost 82 = .ok (.getfield 35, 3) := by decide +kernel
theorem dX4_layMost_85 : decode cX4_layMost 85 = .ok (.iload_n 3, 1) := by decide +kernel
theorem dX4_layMost_86 : decode cX4_layMost 86 = .ok (.iload 7, 2) := by decide +kernel
theorem dX4_layMost_88 : decode cX4_layMost 88 = .ok (.iload 5, 2) := by decide +kernel
theorem dX4_layMost_90 : decode cX4_layMost 90 = .ok (.isub, 1) := by decide +kernel
theorem dX4_layMost_91 : decode cX4_layMost 91 = .ok (.iconst 1, 1) := by decide +kernel
theorem dX4_layMost_92 : decode cX4_layMost 92 = .ok (.iadd, 1) := by decide +kernel
theorem dX4_layMost_93 : decode cX4_layMost 93 = .ok (.iload 4, 2) := by decide +kernel
theorem dX4_layMost_95 : decode cX4_layMost 95 = .ok (.invokestatic 76, 3) := by decide +kernel
theorem dX4_layMost_98 : decode cX4_layMost 98 = .ok (.imul, 1) := by decide +kernel
theorem dX4_layMost_99 : decode cX4_layMost 99 = .ok (.iadd, 1) := by decide +kernel
theorem dX4_layMost_100 : decode cX4_layMost 100 = .ok (.iaload, 1) := by decide +kernel
theorem dX4_layMost_101 : decode cX4_layMost 101 = .ok (.iload 7, 2) := by decide +kernel
theorem dX4_layMost_103 : decode cX4_layMost 103 = .ok (.isub, 1) := by decide +kernel
theorem dX4_layMost_104 : decode cX4_layMost 104 = .ok (.istore 8, 2) := by decide +kernel
theorem dX4_layMost_106 : decode cX4_layMost 106 = .ok (.iload 8, 2) := by decide +kernel
theorem dX4_layMost_108 : decode cX4_layMost 108 = .ok (.iload 6, 2) := by decide +kernel
theorem dX4_layMost_110 : decode cX4_layMost 110 = .ok (.if_icmp .ge 8, 3) := by decide +kernel
theorem dX4_layMost_113 : decode cX4_layMost 113 = .ok (.iload 8, 2) := by decide +kernel
theorem dX4_layMost_115 : decode cX4_layMost 115 = .ok (.goto 5, 3) := by decide +kernel
theorem dX4_layMost_118 : decode cX4_layMost 118 = .ok (.iload 6, 2) := by decide +kernel
theorem dX4_layMost_120 : decode cX4_layMost 120 = .ok (.istore 9, 2) := by decide +kernel
theorem dX4_layMost_122 : decode cX4_layMost 122 = .ok (.aload_n 0, 1) := by decide +kernel
theorem dX4_layMost_123 : decode cX4_layMost 123 = .ok (.getfield 35, 3) := by decide +kernel
theorem dX4_layMost_126 : decode cX4_layMost 126 = .ok (.iload_n 3, 1) := by decide +kernel
theorem dX4_layMost_127 : decode cX4_layMost 127 = .ok (.iload 9, 2) := by decide +kernel
theorem dX4_layMost_129 : decode cX4_layMost 129 = .ok (.aload_n 0, 1) := by decide +kernel
theorem dX4_layMost_130 : decode cX4_layMost 130 = .ok (.getfield 35, 3) := by decide +kernel
theorem dX4_layMost_133 : decode cX4_layMost 133 = .ok (.iload_n 3, 1) := by decide +kernel
theorem dX4_layMost_134 : decode cX4_layMost 134 = .ok (.iaload, 1) := by decide +kernel
theorem dX4_layMost_135 : decode cX4_layMost 135 = .ok (.if_icmp .le 8, 3) := by decide +kernel
theorem dX4_layMost_138 : decode cX4_layMost 138 = .ok (.iload 9, 2) := by decide +kernel
theorem dX4_layMost_140 : decode cX4_layMost 140 = .ok (.goto 9, 3) := by decide +kernel
theorem dX4_layMost_143 : decode cX4_layMost 143 = .ok (.aload_n 0, 1) := by decide +kernel
theorem dX4_layMost_144 : decode cX4_layMost 144 = .ok (.getfield 35, 3) := by decide +kernel
theorem dX4_layMost_147 : decode cX4_layMost 147 = .ok (.iload_n 3, 1) := by decide +kernel
theorem dX4_layMost_148 : decode cX4_layMost 148 = .ok (.iaload, 1) := by decide +kernel
theorem dX4_layMost_149 : decode cX4_layMost 149 = .ok (.iastore, 1) := by decide +kernel
theorem dX4_layMost_150 : decode cX4_layMost 150 = .ok (.iinc 7 1, 3) := by decide +kernel
theorem dX4_layMost_153 : decode cX4_layMost 153 = .ok (.goto (-81), 3) := by decide +kernel
theorem dX4_layMost_156 : decode cX4_layMost 156 = .ok (.iinc 4 1, 3) := by decide +kernel
theorem dX4_layMost_159 : decode cX4_layMost 159 = .ok (.goto (-118), 3) := by decide +kernel
theorem dX4_layMost_162 : decode cX4_layMost 162 = .ok (.iinc 3 (-1), 3) := by decide +kernel
theorem dX4_layMost_165 : decode cX4_layMost 165 = .ok (.goto (-160), 3) := by decide +kernel
theorem dX4_layMost_168 : decode cX4_layMost 168 = .ok (.return_, 1) := by decide +kernel
theorem dX4_findWorst_0 : decode cX4_findWorst 0 = .ok (.aload_n 0, 1) := by decide +kernel
theorem dX4_findWorst_1 : decode cX4_findWorst 1 = .ok (.getfield 111, 3) := by decide +kernel
theorem dX4_findWorst_4 : decode cX4_findWorst 4 = .ok (.bipush 10, 2) := by decide +kernel
theorem dX4_findWorst_6 : decode cX4_findWorst 6 = .ok (.aload_n 0, 1) := by decide +kernel
theorem dX4_findWorst_7 : decode cX4_findWorst 7 = .ok (.getfield 7, 3) := by decide +kernel
theorem dX4_findWorst_10 : decode cX4_findWorst 10 = .ok (.imul, 1) := by decide +kernel
theorem dX4_findWorst_11 : decode cX4_findWorst 11 = .ok (.aload_n 0, 1) := by decide +kernel
theorem dX4_findWorst_12 : decode cX4_findWorst 12 = .ok (.getfield 13, 3) := by decide +kernel
theorem dX4_findWorst_15 : decode cX4_findWorst 15 = .ok (.iadd, 1) := by decide +kernel
theorem dX4_findWorst_16 : decode cX4_findWorst 16 = .ok (.if_icmp .ne 4, 3) := by decide +kernel
theorem dX4_findWorst_19 : decode cX4_findWorst 19 = .ok (.return_, 1) := by decide +kernel
theorem dX4_findWorst_20 : decode cX4_findWorst 20 = .ok (.aload_n 0, 1) := by decide +kernel
theorem dX4_findWorst_21 : decode cX4_findWorst 21 = .ok (.bipush 10, 2) := by decide +kernel
theorem dX4_findWorst_23 : decode cX4_findWorst 23 = .ok (.aload_n 0, 1) := by decide +kernel
theorem dX4_findWorst_24 : decode cX4_findWorst 24 = .ok (.getfield 7, 3) := by decide +kernel
theorem dX4_findWorst_27 : decode cX4_findWorst 27 = .ok (.imul, 1) := by decide +kernel
theorem dX4_findWorst_28 : decode cX4_findWorst 28 = .ok (.aload_n 0, 1) := by decide +kernel
theorem dX4_findWorst_29 : decode cX4_findWorst 29 = .ok (.getfield 13, 3) := by decide +kernel
theorem dX4_findWorst_32 : decode cX4_findWorst 32 = .ok (.iadd, 1) := by decide +kernel
theorem dX4_findWorst_33 : decode cX4_findWorst 33 = .ok (.putfield 111, 3) := by decide +kernel
theorem dX4_findWorst_36 : decode cX4_findWorst 36 = .ok (.aload_n 0, 1) := by decide +kernel
theorem dX4_findWorst_37 : decode cX4_findWorst 37 = .ok (.ldc 109, 2) := by decide +kernel
theorem dX4_findWorst_39 : decode cX4_findWorst 39 = .ok (.putfield 114, 3) := by decide +kernel
theorem dX4_findWorst_42 : decode cX4_findWorst 42 = .ok (.aload_n 0, 1) := by decide +kernel
theorem dX4_findWorst_43 : decode cX4_findWorst 43 = .ok (.iconst 1, 1) := by decide +kernel
theorem dX4_findWorst_44 : decode cX4_findWorst 44 = .ok (.putfield 117, 3) := by decide +kernel
theorem dX4_findWorst_47 : decode cX4_findWorst 47 = .ok (.iconst 1, 1) := by decide +kernel
theorem dX4_findWorst_48 : decode cX4_findWorst 48 = .ok (.istore_n 1, 1) := by decide +kernel
theorem dX4_findWorst_49 : decode cX4_findWorst 49 = .ok (.iload_n 1, 1) := by decide +kernel
theorem dX4_findWorst_50 : decode cX4_findWorst 50 = .ok (.aload_n 0, 1) := by decide +kernel
theorem dX4_findWorst_51 : decode cX4_findWorst 51 = .ok (.getfield 13, 3) := by decide +kernel
theorem dX4_findWorst_54 : decode cX4_findWorst 54 = .ok (.if_icmp .gt 82, 3) := by decide +kernel
theorem dX4_findWorst_57 : decode cX4_findWorst 57 = .ok (.iconst (-1), 1) := by decide +kernel
theorem dX4_findWorst_58 : decode cX4_findWorst 58 = .ok (.istore_n 2, 1) := by decide +kernel
theorem dX4_findWorst_59 : decode cX4_findWorst 59 = .ok (.sipush 400, 3) := by decide +kernel
theorem dX4_findWorst_62 : decode cX4_findWorst 62 = .ok (.istore_n 3, 1) := by decide +kernel
theorem dX4_findWorst_63 : decode cX4_findWorst 63 = .ok (.iload_n 3, 1) := by decide +kernel
theorem dX4_findWorst_64 : decode cX4_findWorst 64 = .ok (.iload_n 2, 1) := by decide +kernel
theorem dX4_findWorst_65 : decode cX4_findWorst 65 = .ok (.isub, 1) := by decide +kernel
theorem dX4_findWorst_66 : decode cX4_findWorst 66 = .ok (.iconst 1, 1) := by decide +kernel
theorem dX4_findWorst_67 : decode cX4_findWorst 67 = .ok (.if_icmp .le 38, 3) := by decide +kernel
theorem dX4_findWorst_70 : decode cX4_findWorst 70 = .ok (.iload_n 2, 1) := by decide +kernel
theorem dX4_findWorst_71 : decode cX4_findWorst 71 = .ok (.iload_n 3, 1) := by decide +kernel
theorem dX4_findWorst_72 : decode cX4_findWorst 72 = .ok (.iadd, 1) := by decide +kernel
theorem dX4_findWorst_73 : decode cX4_findWorst 73 = .ok (.iconst 2, 1) := by decide +kernel
theorem dX4_findWorst_74 : decode cX4_findWorst 74 = .ok (.idiv, 1) := by decide +kernel
theorem dX4_findWorst_75 : decode cX4_findWorst 75 = .ok (.istore 4, 2) := by decide +kernel
theorem dX4_findWorst_77 : decode cX4_findWorst 77 = .ok (.aload_n 0, 1) := by decide +kernel
theorem dX4_findWorst_78 : decode cX4_findWorst 78 = .ok (.iload 4, 2) := by decide +kernel
theorem dX4_findWorst_80 : decode cX4_findWorst 80 = .ok (.iload_n 1, 1) := by decide +kernel
theorem dX4_findWorst_81 : decode cX4_findWorst 81 = .ok (.invokevirtual 120, 3) := by decide +kernel
theorem dX4_findWorst_84 : decode cX4_findWorst 84 = .ok (.aload_n 0, 1) := by decide +kernel
theorem dX4_findWorst_85 : decode cX4_findWorst 85 = .ok (.getfield 35, 3) := by decide +kernel
theorem dX4_findWorst_88 : decode cX4_findWorst 88 = .ok (.iconst 0, 1) := by decide +kernel
theorem dX4_findWorst_89 : decode cX4_findWorst 89 = .ok (.iaload, 1) := by decide +kernel
theorem dX4_findWorst_90 : decode cX4_findWorst 90 = .ok (.ifCond .lt 9, 3) := by decide +kernel
theorem dX4_findWorst_93 : decode cX4_findWorst 93 = .ok (.iload 4, 2) := by decide +kernel
theorem dX4_findWorst_95 : decode cX4_findWorst 95 = .ok (.istore_n 3, 1) := by decide +kernel
theorem dX4_findWorst_96 : decode cX4_findWorst 96 = .ok (.goto 6, 3) := by decide +kernel
theorem dX4_findWorst_99 : decode cX4_findWorst 99 = .ok (.iload 4, 2) := by decide +kernel
theorem dX4_findWorst_101 : decode cX4_findWorst 101 = .ok (.istore_n 2, 1) := by decide +kernel
theorem dX4_findWorst_102 : decode cX4_findWorst 102 = .ok (.goto (-39), 3) := by decide +kernel
theorem dX4_findWorst_105 : decode cX4_findWorst 105 = .ok (.iload_n 3, 1) := by decide +kernel
theorem dX4_findWorst_106 : decode cX4_findWorst 106 = .ok (.aload_n 0, 1) := by decide +kernel
theorem dX4_findWorst_107 : decode cX4_findWorst 107 = .ok (.getfield 117, 3) := by decide +kernel
theorem dX4_findWorst_110 : decode cX4_findWorst 110 = .ok (.imul, 1) := by decide +kernel
theorem dX4_findWorst_111 : decode cX4_findWorst 111 = .ok (.aload_n 0, 1) := by decide +kernel
theorem dX4_findWorst_112 : decode cX4_findWorst 112 = .ok (.getfield 114, 3) := by decide +kernel
theorem dX4_findWorst_115 : decode cX4_findWorst 115 = .ok (.iload_n 1, 1) := by decide +kernel
theorem dX4_findWorst_116 : decode cX4_findWorst 116 = .ok (.imul, 1) := by decide +kernel
theorem dX4_findWorst_117 : decode cX4_findWorst 117 = .ok (.if_icmp .ge 13, 3) := by decide +kernel
theorem dX4_findWorst_120 : decode cX4_findWorst 120 = .ok (.aload_n 0, 1) := by decide +kernel
theorem dX4_findWorst_121 : decode cX4_findWorst 121 = .ok (.iload_n 3, 1) := by decide +kernel
theorem dX4_findWorst_122 : decode cX4_findWorst 122 = .ok (.putfield 114, 3) := by decide +kernel
theorem dX4_findWorst_125 : decode cX4_findWorst 125 = .ok (.aload_n 0, 1) := by decide +kernel
theorem dX4_findWorst_126 : decode cX4_findWorst 126 = .ok (.iload_n 1, 1) := by decide +kernel
theorem dX4_findWorst_127 : decode cX4_findWorst 127 = .ok (.putfield 117, 3) := by decide +kernel
theorem dX4_findWorst_130 : decode cX4_findWorst 130 = .ok (.iinc 1 1, 3) := by decide +kernel
theorem dX4_findWorst_133 : decode cX4_findWorst 133 = .ok (.goto (-84), 3) := by decide +kernel
theorem dX4_findWorst_136 : decode cX4_findWorst 136 = .ok (.return_, 1) := by decide +kernel
theorem dX4_leastWorst_0 : decode cX4_leastWorst 0 = .ok (.iload_n 1, 1) := by decide +kernel
theorem dX4_leastWorst_1 : decode cX4_leastWorst 1 = .ok (.iconst 0, 1) := by decide +kernel
theorem dX4_leastWorst_2 : decode cX4_leastWorst 2 = .ok (.iconst 1, 1) := by decide +kernel
theorem dX4_leastWorst_3 : decode cX4_leastWorst 3 = .ok (.invokestatic 47, 3) := by decide +kernel
theorem dX4_leastWorst_6 : decode cX4_leastWorst 6 = .ok (.ifCond .ne 6, 3) := by decide +kernel
theorem dX4_leastWorst_9 : decode cX4_leastWorst 9 = .ok (.bipush (-2), 2) := by decide +kernel
theorem dX4_leastWorst_11 : decode cX4_leastWorst 11 = .ok (.ireturn, 1) := by decide +kernel
theorem dX4_leastWorst_12 : decode cX4_leastWorst 12 = .ok (.aload_n 0, 1) := by decide +kernel
theorem dX4_leastWorst_13 : decode cX4_leastWorst 13 = .ok (.invokevirtual 124, 3) := by decide +kernel
theorem dX4_leastWorst_16 : decode cX4_leastWorst 16 = .ok (.aload_n 0, 1) := by decide +kernel
theorem dX4_leastWorst_17 : decode cX4_leastWorst 17 = .ok (.getfield 16, 3) := by decide +kernel
theorem dX4_leastWorst_20 : decode cX4_leastWorst 20 = .ok (.aload_n 0, 1) := by decide +kernel
theorem dX4_leastWorst_21 : decode cX4_leastWorst 21 = .ok (.getfield 117, 3) := by decide +kernel
theorem dX4_leastWorst_24 : decode cX4_leastWorst 24 = .ok (.imul, 1) := by decide +kernel
theorem dX4_leastWorst_25 : decode cX4_leastWorst 25 = .ok (.aload_n 0, 1) := by decide +kernel
theorem dX4_leastWorst_26 : decode cX4_leastWorst 26 = .ok (.getfield 16, 3) := by decide +kernel
theorem dX4_leastWorst_29 : decode cX4_leastWorst 29 = .ok (.aload_n 0, 1) := by decide +kernel
theorem dX4_leastWorst_30 : decode cX4_leastWorst 30 = .ok (.getfield 19, 3) := by decide +kernel
theorem dX4_leastWorst_33 : decode cX4_leastWorst 33 = .ok (.iadd, 1) := by decide +kernel
theorem dX4_leastWorst_34 : decode cX4_leastWorst 34 = .ok (.aload_n 0, 1) := by decide +kernel
theorem dX4_leastWorst_35 : decode cX4_leastWorst 35 = .ok (.getfield 114, 3) := by decide +kernel
theorem dX4_leastWorst_38 : decode cX4_leastWorst 38 = .ok (.imul, 1) := by decide +kernel
theorem dX4_leastWorst_39 : decode cX4_leastWorst 39 = .ok (.iadd, 1) := by decide +kernel
theorem dX4_leastWorst_40 : decode cX4_leastWorst 40 = .ok (.aload_n 0, 1) := by decide +kernel
theorem dX4_leastWorst_41 : decode cX4_leastWorst 41 = .ok (.getfield 16, 3) := by decide +kernel
theorem dX4_leastWorst_44 : decode cX4_leastWorst 44 = .ok (.aload_n 0, 1) := by decide +kernel
theorem dX4_leastWorst_45 : decode cX4_leastWorst 45 = .ok (.getfield 117, 3) := by decide +kernel
theorem dX4_leastWorst_48 : decode cX4_leastWorst 48 = .ok (.imul, 1) := by decide +kernel
theorem dX4_leastWorst_49 : decode cX4_leastWorst 49 = .ok (.iload_n 1, 1) := by decide +kernel
theorem dX4_leastWorst_50 : decode cX4_leastWorst 50 = .ok (.invokestatic 69, 3) := by decide +kernel
theorem dX4_leastWorst_53 : decode cX4_leastWorst 53 = .ok (.ireturn, 1) := by decide +kernel
theorem dX4_layWorstPlan_0 : decode cX4_layWorstPlan 0 = .ok (.aload_n 0, 1) := by decide +kernel
theorem dX4_layWorstPlan_1 : decode cX4_layWorstPlan 1 = .ok (.invokevirtual 124, 3) := by decide +kernel
theorem dX4_layWorstPlan_4 : decode cX4_layWorstPlan 4 = .ok (.aload_n 0, 1) := by decide +kernel
theorem dX4_layWorstPlan_5 : decode cX4_layWorstPlan 5 = .ok (.aload_n 0, 1) := by decide +kernel
theorem dX4_layWorstPlan_6 : decode cX4_layWorstPlan 6 = .ok (.getfield 114, 3) := by decide +kernel
theorem dX4_layWorstPlan_9 : decode cX4_layWorstPlan 9 = .ok (.aload_n 0, 1) := by decide +kernel
theorem dX4_layWorstPlan_10 : decode cX4_layWorstPlan 10 = .ok (.getfield 117, 3) := by decide +kernel
theorem dX4_layWorstPlan_13 : decode cX4_layWorstPlan 13 = .ok (.invokevirtual 120, 3) := by decide +kernel
theorem dX4_layWorstPlan_16 : decode cX4_layWorstPlan 16 = .ok (.aload_n 0, 1) := by decide +kernel
theorem dX4_layWorstPlan_17 : decode cX4_layWorstPlan 17 = .ok (.iconst 0, 1) := by decide +kernel
theorem dX4_layWorstPlan_18 : decode cX4_layWorstPlan 18 = .ok (.putfield 100, 3) := by decide +kernel
theorem dX4_layWorstPlan_21 : decode cX4_layWorstPlan 21 = .ok (.iconst 0, 1) := by decide +kernel
theorem dX4_layWorstPlan_22 : decode cX4_layWorstPlan 22 = .ok (.istore_n 1, 1) := by decide +kernel
theorem dX4_layWorstPlan_23 : decode cX4_layWorstPlan 23 = .ok (.iconst 0, 1) := by decide +kernel
theorem dX4_layWorstPlan_24 : decode cX4_layWorstPlan 24 = .ok (.istore_n 2, 1) := by decide +kernel
theorem dX4_layWorstPlan_25 : decode cX4_layWorstPlan 25 = .ok (.iload_n 1, 1) := by decide +kernel
theorem dX4_layWorstPlan_26 : decode cX4_layWorstPlan 26 = .ok (.aload_n 0, 1) := by decide +kernel
theorem dX4_layWorstPlan_27 : decode cX4_layWorstPlan 27 = .ok (.invokevirtual 85, 3) := by decide +kernel
theorem dX4_layWorstPlan_30 : decode cX4_layWorstPlan 30 = .ok (.if_icmp .eq 157, 3) := by decide +kernel
theorem dX4_layWorstPlan_33 : decode cX4_layWorstPlan 33 = .ok (.iconst (-1), 1) := by decide +kernel
theorem dX4_layWorstPlan_34 : decode cX4_layWorstPlan 34 = .ok (.istore_n 3, 1) := by decide +kernel
theorem dX4_layWorstPlan_35 : decode cX4_layWorstPlan 35 = .ok (.iconst 0, 1) := by decide +kernel
theorem dX4_layWorstPlan_36 : decode cX4_layWorstPlan 36 = .ok (.istore 4, 2) := by decide +kernel
theorem dX4_layWorstPlan_38 : decode cX4_layWorstPlan 38 = .ok (.iload 4, 2) := by decide +kernel
theorem dX4_layWorstPlan_40 : decode cX4_layWorstPlan 40 = .ok (.aload_n 0, 1) := by decide +kernel
theorem dX4_layWorstPlan_41 : decode cX4_layWorstPlan 41 = .ok (.getfield 7, 3) := by decide +kernel
theorem dX4_layWorstPlan_44 : decode cX4_layWorstPlan 44 = .ok (.if_icmp .ge 113, 3) := by decide +kernel
theorem dX4_layWorstPlan_47 : decode cX4_layWorstPlan 47 = .ok (.iload_n 3, 1) := by decide +kernel
theorem dX4_layWorstPlan_48 : decode cX4_layWorstPlan 48 = .ok (.ifCond .ge 109, 3) := by decide +kernel
theorem dX4_layWorstPlan_51 : decode cX4_layWorstPlan 51 = .ok (.iload_n 1, 1) := by decide +kernel
theorem dX4_layWorstPlan_52 : decode cX4_layWorstPlan 52 = .ok (.iload 4, 2) := by decide +kernel
theorem dX4_layWorstPlan_54 : decode cX4_layWorstPlan 54 = .ok (.invokestatic 79, 3) := by decide +kernel
theorem dX4_layWorstPlan_57 : decode cX4_layWorstPlan 57 = .ok (.iconst 1, 1) := by decide +kernel
theorem dX4_layWorstPlan_58 : decode cX4_layWorstPlan 58 = .ok (.iadd, 1) := by decide +kernel
theorem dX4_layWorstPlan_59 : decode cX4_layWorstPlan 59 = .ok (.istore 5, 2) := by decide +kernel
theorem dX4_layWorstPlan_61 : decode cX4_layWorstPlan 61 = .ok (.iload 5, 2) := by decide +kernel
theorem dX4_layWorstPlan_63 : decode cX4_layWorstPlan 63 = .ok (.istore 6, 2) := by decide +kernel
theorem dX4_layWorstPlan_65 : decode cX4_layWorstPlan 65 = .ok (.iload 6, 2) := by decide +kernel
theorem dX4_layWorstPlan_67 : decode cX4_layWorstPlan 67 = .ok (.aload_n 0, 1) := by decide +kernel
theorem dX4_layWorstPlan_68 : decode cX4_layWorstPlan 68 = .ok (.getfield 13, 3) := by decide +kernel
theorem dX4_layWorstPlan_71 : decode cX4_layWorstPlan 71 = .ok (.if_icmp .gt 80, 3) := by decide +kernel
theorem dX4_layWorstPlan_74 : decode cX4_layWorstPlan 74 = .ok (.iload_n 3, 1) := by decide +kernel
theorem dX4_layWorstPlan_75 : decode cX4_layWorstPlan 75 = .ok (.ifCond .ge 76, 3) := by decide +kernel
theorem dX4_layWorstPlan_78 : decode cX4_layWorstPlan 78 = .ok (.iload_n 1, 1) := by decide +kernel
theorem dX4_layWorstPlan_79 : decode cX4_layWorstPlan 79 = .ok (.iload 6, 2) := by decide +kernel
theorem dX4_layWorstPlan_81 : decode cX4_layWorstPlan 81 = .ok (.iload 5, 2) := by decide +kernel
theorem dX4_layWorstPlan_83 : decode cX4_layWorstPlan 83 = .ok (.isub, 1) := by decide +kernel
theorem dX4_layWorstPlan_84 : decode cX4_layWorstPlan 84 = .ok (.iconst 1, 1) := by decide +kernel
theorem dX4_layWorstPlan_85 : decode cX4_layWorstPlan 85 = .ok (.iadd, 1) := by decide +kernel
theorem dX4_layWorstPlan_86 : decode cX4_layWorstPlan 86 = .ok (.iload 4, 2) := by decide +kernel
theorem dX4_layWorstPlan_88 : decode cX4_layWorstPlan 88 = .ok (.invokestatic 76, 3) := by decide +kernel
theorem dX4_layWorstPlan_91 : decode cX4_layWorstPlan 91 = .ok (.imul, 1) := by decide +kernel
theorem dX4_layWorstPlan_92 : decode cX4_layWorstPlan 92 = .ok (.iadd, 1) := by decide +kernel
theorem dX4_layWorstPlan_93 : decode cX4_layWorstPlan 93 = .ok (.istore 7, 2) := by decide +kernel
theorem dX4_layWorstPlan_95 : decode cX4_layWorstPlan 95 = .ok (.iload_n 2, 1) := by decide +kernel
theorem dX4_layWorstPlan_96 : decode cX4_layWorstPlan 96 = .ok (.aload_n 0, 1) := by decide +kernel
theorem dX4_layWorstPlan_97 : decode cX4_layWorstPlan 97 = .ok (.getfield 117, 3) := by decide +kernel
theorem dX4_layWorstPlan_100 : decode cX4_layWorstPlan 100 = .ok (.imul, 1) := by decide +kernel
theorem dX4_layWorstPlan_101 : decode cX4_layWorstPlan 101 = .ok (.aload_n 0, 1) := by decide +kernel
theorem dX4_layWorstPlan_102 : decode cX4_layWorstPlan 102 = .ok (.getfield 114, 3) := by decide +kernel
theorem dX4_layWorstPlan_105 : decode cX4_layWorstPlan 105 = .ok (.iload 5, 2) := by decide +kernel
theorem dX4_layWorstPlan_107 : decode cX4_layWorstPlan 107 = .ok (.imul, 1) := by decide +kernel
theorem dX4_layWorstPlan_108 : decode cX4_layWorstPlan 108 = .ok (.if_icmp .gt 37, 3) := by decide +kernel
theorem dX4_layWorstPlan_111 : decode cX4_layWorstPlan 111 = .ok (.iload_n 2, 1) := by decide +kernel
theorem dX4_layWorstPlan_112 : decode cX4_layWorstPlan 112 = .ok (.iload 6, 2) := by decide +kernel
theorem dX4_layWorstPlan_114 : decode cX4_layWorstPlan 114 = .ok (.iadd, 1) := by decide +kernel
theorem dX4_layWorstPlan_115 : decode cX4_layWorstPlan 115 = .ok (.aload_n 0, 1) := by decide +kernel
theorem dX4_layWorstPlan_116 : decode cX4_layWorstPlan 116 = .ok (.getfield 35, 3) := by decide +kernel
theorem dX4_layWorstPlan_119 : decode cX4_layWorstPlan 119 = .ok (.iload 7, 2) := by decide +kernel
theorem dX4_layWorstPlan_121 : decode cX4_layWorstPlan 121 = .ok (.iaload, 1) := by decide +kernel
theorem dX4_layWorstPlan_122 : decode cX4_layWorstPlan 122 = .ok (.if_icmp .gt 23, 3) := by decide +kernel
theorem dX4_layWorstPlan_125 : decode cX4_layWorstPlan 125 = .ok (.iload 7, 2) := by decide +kernel
theorem dX4_layWorstPlan_127 : decode cX4_layWorstPlan 127 = .ok (.istore_n 3, 1) := by decide +kernel
theorem dX4_layWorstPlan_128 : decode cX4_layWorstPlan 128 = .ok (.aload_n 0, 1) := by decide +kernel
theorem dX4_layWorstPlan_129 : decode cX4_layWorstPlan 129 = .ok (.getfield 38, 3) := by decide +kernel
theorem dX4_layWorstPlan_132 : decode cX4_layWorstPlan 132 = .ok (.aload_n 0, 1) := by decide +kernel
theorem dX4_layWorstPlan_133 : decode cX4_layWorstPlan 133 = .ok (.getfield 100, 3) := by decide +kernel
theorem dX4_layWorstPlan_136 : decode cX4_layWorstPlan 136 = .ok (.bipush 10, 2) := by decide +kernel
theorem dX4_layWorstPlan_138 : decode cX4_layWorstPlan 138 = .ok (.iload 4, 2) := by decide +kernel
theorem dX4_layWorstPlan_140 : decode cX4_layWorstPlan 140 = .ok (.imul, 1) := by decide +kernel
theorem dX4_layWorstPlan_141 : decode cX4_layWorstPlan 141 = .ok (.iload 6, 2) := by decide +kernel
theorem dX4_layWorstPlan_143 : decode cX4_layWorstPlan 143 = .ok (.iadd, 1) := by decide +kernel
theorem dX4_layWorstPlan_144 : decode cX4_layWorstPlan 144 = .ok (.iastore, 1) := by decide +kernel
theorem dX4_layWorstPlan_145 : decode cX4_layWorstPlan 145 = .ok (.iinc 6 1, 3) := by decide +kernel
theorem dX4_layWorstPlan_148 : decode cX4_layWorstPlan 148 = .ok (.goto (-83), 3) := by decide +kernel
theorem dX4_layWorstPlan_151 : decode cX4_layWorstPlan 151 = .ok (.iinc 4 1, 3) := by decide +kernel
theorem dX4_layWorstPlan_154 : decode cX4_layWorstPlan 154 = .ok (.goto (-116), 3) := by decide +kernel
theorem dX4_layWorstPlan_157 : decode cX4_layWorstPlan 157 = .ok (.iload_n 2, 1) := by decide +kernel
theorem dX4_layWorstPlan_158 : decode cX4_layWorstPlan 158 = .ok (.aload_n 0, 1) := by decide +kernel
theorem dX4_layWorstPlan_159 : decode cX4_layWorstPlan 159 = .ok (.getfield 38, 3) := by decide +kernel
theorem dX4_layWorstPlan_162 : decode cX4_layWorstPlan 162 = .ok (.aload_n 0, 1) := by decide +kernel
theorem dX4_layWorstPlan_163 : decode cX4_layWorstPlan 163 = .ok (.getfield 100, 3) := by decide +kernel
theorem dX4_layWorstPlan_166 : decode cX4_layWorstPlan 166 = .ok (.iaload, 1) := by decide +kernel
theorem dX4_layWorstPlan_167 : decode cX4_layWorstPlan 167 = .ok (.bipush 10, 2) := by decide +kernel
theorem dX4_layWorstPlan_169 : decode cX4_layWorstPlan 169 = .ok (.irem, 1) := by decide +kernel
theorem dX4_layWorstPlan_170 : decode cX4_layWorstPlan 170 = .ok (.iadd, 1) := by decide +kernel
theorem dX4_layWorstPlan_171 : decode cX4_layWorstPlan 171 = .ok (.istore_n 2, 1) := by decide +kernel
theorem dX4_layWorstPlan_172 : decode cX4_layWorstPlan 172 = .ok (.aload_n 0, 1) := by decide +kernel
theorem dX4_layWorstPlan_173 : decode cX4_layWorstPlan 173 = .ok (.dup, 1) := by decide +kernel
theorem dX4_layWorstPlan_174 : decode cX4_layWorstPlan 174 = .ok (.getfield 100, 3) := by decide +kernel
theorem dX4_layWorstPlan_177 : decode cX4_layWorstPlan 177 = .ok (.iconst 1, 1) := by decide +kernel
theorem dX4_layWorstPlan_178 : decode cX4_layWorstPlan 178 = .ok (.iadd, 1) := by decide +kernel
theorem dX4_layWorstPlan_179 : decode cX4_layWorstPlan 179 = .ok (.putfield 100, 3) := by decide +kernel
theorem dX4_layWorstPlan_182 : decode cX4_layWorstPlan 182 = .ok (.iload_n 3, 1) := by decide +kernel
theorem dX4_layWorstPlan_183 : decode cX4_layWorstPlan 183 = .ok (.istore_n 1, 1) := by decide +kernel
theorem dX4_layWorstPlan_184 : decode cX4_layWorstPlan 184 = .ok (.goto (-159), 3) := by decide +kernel
theorem dX4_layWorstPlan_187 : decode cX4_layWorstPlan 187 = .ok (.return_, 1) := by decide +kernel
theorem dX4_worstTrip_0 : decode cX4_worstTrip 0 = .ok (.aload_n 0, 1) := by decide +kernel
theorem dX4_worstTrip_1 : decode cX4_worstTrip 1 = .ok (.invokevirtual 127, 3) := by decide +kernel
theorem dX4_worstTrip_4 : decode cX4_worstTrip 4 = .ok (.aload_n 0, 1) := by decide +kernel
theorem dX4_worstTrip_5 : decode cX4_worstTrip 5 = .ok (.iload_n 1, 1) := by decide +kernel
theorem dX4_worstTrip_6 : decode cX4_worstTrip 6 = .ok (.invokevirtual 106, 3) := by decide +kernel
theorem dX4_worstTrip_9 : decode cX4_worstTrip 9 = .ok (.ireturn, 1) := by decide +kernel
theorem dX4_within_0 : decode cX4_within 0 = .ok (.iload_n 1, 1) := by decide +kernel
theorem dX4_within_1 : decode cX4_within 1 = .ok (.iconst 1, 1) := by decide +kernel
theorem dX4_within_2 : decode cX4_within 2 = .ok (.sipush 10000, 3) := by decide +kernel
theorem dX4_within_5 : decode cX4_within 5 = .ok (.invokestatic 47, 3) := by decide +kernel
theorem dX4_within_8 : decode cX4_within 8 = .ok (.ifCond .eq 14, 3) := by decide +kernel
theorem dX4_within_11 : decode cX4_within 11 = .ok (.iload_n 2, 1) := by decide +kernel
theorem dX4_within_12 : decode cX4_within 12 = .ok (.iconst 1, 1) := by decide +kernel
theorem dX4_within_13 : decode cX4_within 13 = .ok (.sipush 10000, 3) := by decide +kernel
theorem dX4_within_16 : decode cX4_within 16 = .ok (.invokestatic 47, 3) := by decide +kernel
theorem dX4_within_19 : decode cX4_within 19 = .ok (.ifCond .ne 6, 3) := by decide +kernel
theorem dX4_within_22 : decode cX4_within 22 = .ok (.bipush (-2), 2) := by decide +kernel
theorem dX4_within_24 : decode cX4_within 24 = .ok (.ireturn, 1) := by decide +kernel
theorem dX4_within_25 : decode cX4_within 25 = .ok (.iload_n 1, 1) := by decide +kernel
theorem dX4_within_26 : decode cX4_within 26 = .ok (.iload_n 2, 1) := by decide +kernel
theorem dX4_within_27 : decode cX4_within 27 = .ok (.if_icmp .ge 5, 3) := by decide +kernel
theorem dX4_within_30 : decode cX4_within 30 = .ok (.iconst 0, 1) := by decide +kernel
theorem dX4_within_31 : decode cX4_within 31 = .ok (.ireturn, 1) := by decide +kernel
theorem dX4_within_32 : decode cX4_within 32 = .ok (.aload_n 0, 1) := by decide +kernel
theorem dX4_within_33 : decode cX4_within 33 = .ok (.iload_n 1, 1) := by decide +kernel
theorem dX4_within_34 : decode cX4_within 34 = .ok (.iload_n 2, 1) := by decide +kernel
theorem dX4_within_35 : decode cX4_within 35 = .ok (.isub, 1) := by decide +kernel
theorem dX4_within_36 : decode cX4_within 36 = .ok (.aload_n 0, 1) := by decide +kernel
theorem dX4_within_37 : decode cX4_within 37 = .ok (.getfield 16, 3) := by decide +kernel
theorem dX4_within_40 : decode cX4_within 40 = .ok (.imul, 1) := by decide +kernel
theorem dX4_within_41 : decode cX4_within 41 = .ok (.iload_n 2, 1) := by decide +kernel
theorem dX4_within_42 : decode cX4_within 42 = .ok (.aload_n 0, 1) := by decide +kernel
theorem dX4_within_43 : decode cX4_within 43 = .ok (.getfield 16, 3) := by decide +kernel
theorem dX4_within_46 : decode cX4_within 46 = .ok (.aload_n 0, 1) := by decide +kernel
theorem dX4_within_47 : decode cX4_within 47 = .ok (.getfield 19, 3) := by decide +kernel
theorem dX4_within_50 : decode cX4_within 50 = .ok (.iadd, 1) := by decide +kernel
theorem dX4_within_51 : decode cX4_within 51 = .ok (.imul, 1) := by decide +kernel
theorem dX4_within_52 : decode cX4_within 52 = .ok (.invokevirtual 120, 3) := by decide +kernel
theorem dX4_within_55 : decode cX4_within 55 = .ok (.aload_n 0, 1) := by decide +kernel
theorem dX4_within_56 : decode cX4_within 56 = .ok (.getfield 35, 3) := by decide +kernel
theorem dX4_within_59 : decode cX4_within 59 = .ok (.iconst 0, 1) := by decide +kernel
theorem dX4_within_60 : decode cX4_within 60 = .ok (.iaload, 1) := by decide +kernel
theorem dX4_within_61 : decode cX4_within 61 = .ok (.ifCond .lt 7, 3) := by decide +kernel
theorem dX4_within_64 : decode cX4_within 64 = .ok (.iconst 1, 1) := by decide +kernel
theorem dX4_within_65 : decode cX4_within 65 = .ok (.goto 4, 3) := by decide +kernel
theorem dX4_within_68 : decode cX4_within 68 = .ok (.iconst 0, 1) := by decide +kernel
theorem dX4_within_69 : decode cX4_within 69 = .ok (.ireturn, 1) := by decide +kernel
theorem dX4_take_0 : decode cX4_take 0 = .ok (.iload_n 1, 1) := by decide +kernel
theorem dX4_take_1 : decode cX4_take 1 = .ok (.iconst 0, 1) := by decide +kernel
theorem dX4_take_2 : decode cX4_take 2 = .ok (.iconst 1, 1) := by decide +kernel
theorem dX4_take_3 : decode cX4_take 3 = .ok (.invokestatic 47, 3) := by decide +kernel
theorem dX4_take_6 : decode cX4_take 6 = .ok (.ifCond .ne 6, 3) := by decide +kernel
theorem dX4_take_9 : decode cX4_take 9 = .ok (.bipush (-2), 2) := by decide +kernel
theorem dX4_take_11 : decode cX4_take 11 = .ok (.ireturn, 1) := by decide +kernel
theorem dX4_take_12 : decode cX4_take 12 = .ok (.iload_n 1, 1) := by decide +kernel
theorem dX4_take_13 : decode cX4_take 13 = .ok (.ifCond .ne 10, 3) := by decide +kernel
theorem dX4_take_16 : decode cX4_take 16 = .ok (.aload_n 0, 1) := by decide +kernel
theorem dX4_take_17 : decode cX4_take 17 = .ok (.invokevirtual 103, 3) := by decide +kernel
theorem dX4_take_20 : decode cX4_take 20 = .ok (.goto 7, 3) := by decide +kernel
theorem dX4_take_23 : decode cX4_take 23 = .ok (.aload_n 0, 1) := by decide +kernel
theorem dX4_take_24 : decode cX4_take 24 = .ok (.invokevirtual 127, 3) := by decide +kernel
theorem dX4_take_27 : decode cX4_take 27 = .ok (.aload_n 0, 1) := by decide +kernel
theorem dX4_take_28 : decode cX4_take 28 = .ok (.aload_n 0, 1) := by decide +kernel
theorem dX4_take_29 : decode cX4_take 29 = .ok (.getfield 100, 3) := by decide +kernel
theorem dX4_take_32 : decode cX4_take 32 = .ok (.putfield 44, 3) := by decide +kernel
theorem dX4_take_35 : decode cX4_take 35 = .ok (.iconst 0, 1) := by decide +kernel
theorem dX4_take_36 : decode cX4_take 36 = .ok (.istore_n 2, 1) := by decide +kernel
theorem dX4_take_37 : decode cX4_take 37 = .ok (.iload_n 2, 1) := by decide +kernel
theorem dX4_take_38 : decode cX4_take 38 = .ok (.aload_n 0, 1) := by decide +kernel
theorem dX4_take_39 : decode cX4_take 39 = .ok (.getfield 100, 3) := by decide +kernel
theorem dX4_take_42 : decode cX4_take 42 = .ok (.if_icmp .ge 39, 3) := by decide +kernel
theorem dX4_take_45 : decode cX4_take 45 = .ok (.aload_n 0, 1) := by decide +kernel
theorem dX4_take_46 : decode cX4_take 46 = .ok (.getfield 26, 3) := by decide +kernel
theorem dX4_take_49 : decode cX4_take 49 = .ok (.iload_n 2, 1) := by decide +kernel
theorem dX4_take_50 : decode cX4_take 50 = .ok (.aload_n 0, 1) := by decide +kernel
theorem dX4_take_51 : decode cX4_take 51 = .ok (.getfield 38, 3) := by decide +kernel
theorem dX4_take_54 : decode cX4_take 54 = .ok (.iload_n 2, 1) := by decide +kernel
theorem dX4_take_55 : decode cX4_take 55 = .ok (.iaload, 1) := by decide +kernel
theorem dX4_take_56 : decode cX4_take 56 = .ok (.bipush 10, 2) := by decide +kernel
theorem dX4_take_58 : decode cX4_take 58 = .ok (.idiv, 1) := by decide +kernel
theorem dX4_take_59 : decode cX4_take 59 = .ok (.iastore, 1) := by decide +kernel
theorem dX4_take_60 : decode cX4_take 60 = .ok (.aload_n 0, 1) := by decide +kernel
theorem dX4_take_61 : decode cX4_take 61 = .ok (.getfield 29, 3) := by decide +kernel
theorem dX4_take_64 : decode cX4_take 64 = .ok (.iload_n 2, 1) := by decide +kernel
theorem dX4_take_65 : decode cX4_take 65 = .ok (.aload_n 0, 1) := by decide +kernel
theorem dX4_take_66 : decode cX4_take 66 = .ok (.getfield 38, 3) := by decide +kernel
theorem dX4_take_69 : decode cX4_take 69 = .ok (.iload_n 2, 1) := by decide +kernel
theorem dX4_take_70 : decode cX4_take 70 = .ok (.iaload, 1) := by decide +kernel
theorem dX4_take_71 : decode cX4_take 71 = .ok (.bipush 10, 2) := by decide +kernel
theorem dX4_take_73 : decode cX4_take 73 = .ok (.irem, 1) := by decide +kernel
theorem dX4_take_74 : decode cX4_take 74 = .ok (.iastore, 1) := by decide +kernel
theorem dX4_take_75 : decode cX4_take 75 = .ok (.iinc 2 1, 3) := by decide +kernel
theorem dX4_take_78 : decode cX4_take 78 = .ok (.goto (-41), 3) := by decide +kernel
theorem dX4_take_81 : decode cX4_take 81 = .ok (.aload_n 0, 1) := by decide +kernel
theorem dX4_take_82 : decode cX4_take 82 = .ok (.getfield 44, 3) := by decide +kernel
theorem dX4_take_85 : decode cX4_take 85 = .ok (.ireturn, 1) := by decide +kernel
theorem dX4_comesBy_0 : decode cX4_comesBy 0 = .ok (.iload_n 1, 1) := by decide +kernel
theorem dX4_comesBy_1 : decode cX4_comesBy 1 = .ok (.istore 4, 2) := by decide +kernel
theorem dX4_comesBy_3 : decode cX4_comesBy 3 = .ok (.iload 4, 2) := by decide +kernel
theorem dX4_comesBy_5 : decode cX4_comesBy 5 = .ok (.aload_n 0, 1) := by decide +kernel
theorem dX4_comesBy_6 : decode cX4_comesBy 6 = .ok (.getfield 44, 3) := by decide +kernel
theorem dX4_comesBy_9 : decode cX4_comesBy 9 = .ok (.if_icmp .ge 34, 3) := by decide +kernel
theorem dX4_comesBy_12 : decode cX4_comesBy 12 = .ok (.aload_n 0, 1) := by decide +kernel
theorem dX4_comesBy_13 : decode cX4_comesBy 13 = .ok (.getfield 26, 3) := by decide +kernel
theorem dX4_comesBy_16 : decode cX4_comesBy 16 = .ok (.iload 4, 2) := by decide +kernel
theorem dX4_comesBy_18 : decode cX4_comesBy 18 = .ok (.iaload, 1) := by decide +kernel
theorem dX4_comesBy_19 : decode cX4_comesBy 19 = .ok (.iload_n 2, 1) := by decide +kernel
theorem dX4_comesBy_20 : decode cX4_comesBy 20 = .ok (.if_icmp .ne 17, 3) := by decide +kernel
theorem dX4_comesBy_23 : decode cX4_comesBy 23 = .ok (.aload_n 0, 1) := by decide +kernel
theorem dX4_comesBy_24 : decode cX4_comesBy 24 = .ok (.getfield 29, 3) := by decide +kernel
theorem dX4_comesBy_27 : decode cX4_comesBy 27 = .ok (.iload 4, 2) := by decide +kernel
theorem dX4_comesBy_29 : decode cX4_comesBy 29 = .ok (.iaload, 1) := by decide +kernel
theorem dX4_comesBy_30 : decode cX4_comesBy 30 = .ok (.iload_n 3, 1) := by decide +kernel
theorem dX4_comesBy_31 : decode cX4_comesBy 31 = .ok (.if_icmp .lt 6, 3) := by decide +kernel
theorem dX4_comesBy_34 : decode cX4_comesBy 34 = .ok (.iload 4, 2) := by decide +kernel
theorem dX4_comesBy_36 : decode cX4_comesBy 36 = .ok (.ireturn, 1) := by decide +kernel
theorem dX4_comesBy_37 : decode cX4_comesBy 37 = .ok (.iinc 4 2, 3) := by decide +kernel
theorem dX4_comesBy_40 : decode cX4_comesBy 40 = .ok (.goto (-37), 3) := by decide +kernel
theorem dX4_comesBy_43 : decode cX4_comesBy 43 = .ok (.bipush (-6), 2) := by decide +kernel
theorem dX4_comesBy_45 : decode cX4_comesBy 45 = .ok (.ireturn, 1) := by decide +kernel
theorem dX4_aheadOf_0 : decode cX4_aheadOf 0 = .ok (.iconst 0, 1) := by decide +kernel
theorem dX4_aheadOf_1 : decode cX4_aheadOf 1 = .ok (.istore_n 2, 1) := by decide +kernel
theorem dX4_aheadOf_2 : decode cX4_aheadOf 2 = .ok (.iload_n 1, 1) := by decide +kernel
theorem dX4_aheadOf_3 : decode cX4_aheadOf 3 = .ok (.iconst 2, 1) := by decide +kernel
theorem dX4_aheadOf_4 : decode cX4_aheadOf 4 = .ok (.irem, 1) := by decide +kernel
theorem dX4_aheadOf_5 : decode cX4_aheadOf 5 = .ok (.istore_n 3, 1) := by decide +kernel
theorem dX4_aheadOf_6 : decode cX4_aheadOf 6 = .ok (.iload_n 3, 1) := by decide +kernel
theorem dX4_aheadOf_7 : decode cX4_aheadOf 7 = .ok (.iload_n 1, 1) := by decide +kernel
theorem dX4_aheadOf_8 : decode cX4_aheadOf 8 = .ok (.if_icmp .ge 28, 3) := by decide +kernel
theorem dX4_aheadOf_11 : decode cX4_aheadOf 11 = .ok (.iload_n 2, 1) := by decide +kernel
theorem dX4_aheadOf_12 : decode cX4_aheadOf 12 = .ok (.aload_n 0, 1) := by decide +kernel
theorem dX4_aheadOf_13 : decode cX4_aheadOf 13 = .ok (.getfield 29, 3) := by decide +kernel
theorem dX4_aheadOf_16 : decode cX4_aheadOf 16 = .ok (.iload_n 3, 1) := by decide +kernel
theorem dX4_aheadOf_17 : decode cX4_aheadOf 17 = .ok (.iaload, 1) := by decide +kernel
theorem dX4_aheadOf_18 : decode cX4_aheadOf 18 = .ok (.aload_n 0, 1) := by decide +kernel
theorem dX4_aheadOf_19 : decode cX4_aheadOf 19 = .ok (.getfield 16, 3) := by decide +kernel
theorem dX4_aheadOf_22 : decode cX4_aheadOf 22 = .ok (.aload_n 0, 1) := by decide +kernel
theorem dX4_aheadOf_23 : decode cX4_aheadOf 23 = .ok (.getfield 19, 3) := by decide +kernel
theorem dX4_aheadOf_26 : decode cX4_aheadOf 26 = .ok (.iadd, 1) := by decide +kernel
theorem dX4_aheadOf_27 : decode cX4_aheadOf 27 = .ok (.imul, 1) := by decide +kernel
theorem dX4_aheadOf_28 : decode cX4_aheadOf 28 = .ok (.iadd, 1) := by decide +kernel
theorem dX4_aheadOf_29 : decode cX4_aheadOf 29 = .ok (.istore_n 2, 1) := by decide +kernel
theorem dX4_aheadOf_30 : decode cX4_aheadOf 30 = .ok (.iinc 3 2, 3) := by decide +kernel
theorem dX4_aheadOf_33 : decode cX4_aheadOf 33 = .ok (.goto (-27), 3) := by decide +kernel
theorem dX4_aheadOf_36 : decode cX4_aheadOf 36 = .ok (.iload_n 2, 1) := by decide +kernel
theorem dX4_aheadOf_37 : decode cX4_aheadOf 37 = .ok (.ireturn, 1) := by decide +kernel
theorem dX4_both_0 : decode cX4_both 0 = .ok (.aload_n 0, 1) := by decide +kernel
theorem dX4_both_1 : decode cX4_both 1 = .ok (.iload_n 1, 1) := by decide +kernel
theorem dX4_both_2 : decode cX4_both 2 = .ok (.iload_n 2, 1) := by decide +kernel
theorem dX4_both_3 : decode cX4_both 3 = .ok (.invokevirtual 51, 3) := by decide +kernel
theorem dX4_both_6 : decode cX4_both 6 = .ok (.ifCond .ne 5, 3) := by decide +kernel
theorem dX4_both_9 : decode cX4_both 9 = .ok (.iconst (-1), 1) := by decide +kernel
theorem dX4_both_10 : decode cX4_both 10 = .ok (.ireturn, 1) := by decide +kernel
theorem dX4_both_11 : decode cX4_both 11 = .ok (.iload_n 3, 1) := by decide +kernel
theorem dX4_both_12 : decode cX4_both 12 = .ok (.iconst 0, 1) := by decide +kernel
theorem dX4_both_13 : decode cX4_both 13 = .ok (.iconst 4, 1) := by decide +kernel
theorem dX4_both_14 : decode cX4_both 14 = .ok (.invokestatic 47, 3) := by decide +kernel
theorem dX4_both_17 : decode cX4_both 17 = .ok (.ifCond .ne 6, 3) := by decide +kernel
theorem dX4_both_20 : decode cX4_both 20 = .ok (.bipush (-2), 2) := by decide +kernel
theorem dX4_both_22 : decode cX4_both 22 = .ok (.ireturn, 1) := by decide +kernel
theorem dX4_both_23 : decode cX4_both 23 = .ok (.aload_n 0, 1) := by decide +kernel
theorem dX4_both_24 : decode cX4_both 24 = .ok (.iconst 0, 1) := by decide +kernel
theorem dX4_both_25 : decode cX4_both 25 = .ok (.iload_n 1, 1) := by decide +kernel
theorem dX4_both_26 : decode cX4_both 26 = .ok (.iload_n 2, 1) := by decide +kernel
theorem dX4_both_27 : decode cX4_both 27 = .ok (.invokevirtual 130, 3) := by decide +kernel
theorem dX4_both_30 : decode cX4_both 30 = .ok (.istore 4, 2) := by decide +kernel
theorem dX4_both_32 : decode cX4_both 32 = .ok (.aload_n 0, 1) := by decide +kernel
theorem dX4_both_33 : decode cX4_both 33 = .ok (.iconst 1, 1) := by decide +kernel
theorem dX4_both_34 : decode cX4_both 34 = .ok (.iload_n 1, 1) := by decide +kernel
theorem dX4_both_35 : decode cX4_both 35 = .ok (.iload_n 2, 1) := by decide +kernel
theorem dX4_both_36 : decode cX4_both 36 = .ok (.invokevirtual 130, 3) := by decide +kernel
theorem dX4_both_39 : decode cX4_both 39 = .ok (.istore 5, 2) := by decide +kernel
theorem dX4_both_41 : decode cX4_both 41 = .ok (.iload 4, 2) := by decide +kernel
theorem dX4_both_43 : decode cX4_both 43 = .ok (.ifCond .ge 11, 3) := by decide +kernel
theorem dX4_both_46 : decode cX4_both 46 = .ok (.iload 5, 2) := by decide +kernel
theorem dX4_both_48 : decode cX4_both 48 = .ok (.ifCond .ge 6, 3) := by decide +kernel
theorem dX4_both_51 : decode cX4_both 51 = .ok (.bipush (-6), 2) := by decide +kernel
theorem dX4_both_53 : decode cX4_both 53 = .ok (.ireturn, 1) := by decide +kernel
theorem dX4_both_54 : decode cX4_both 54 = .ok (.iload 5, 2) := by decide +kernel
theorem dX4_both_56 : decode cX4_both 56 = .ok (.ifCond .lt 23, 3) := by decide +kernel
theorem dX4_both_59 : decode cX4_both 59 = .ok (.iload 4, 2) := by decide +kernel
theorem dX4_both_61 : decode cX4_both 61 = .ok (.ifCond .lt 22, 3) := by decide +kernel
theorem dX4_both_64 : decode cX4_both 64 = .ok (.aload_n 0, 1) := by decide +kernel
theorem dX4_both_65 : decode cX4_both 65 = .ok (.iload 4, 2) := by decide +kernel
theorem dX4_both_67 : decode cX4_both 67 = .ok (.invokevirtual 133, 3) := by decide +kernel
theorem dX4_both_70 : decode cX4_both 70 = .ok (.aload_n 0, 1) := by decide +kernel
theorem dX4_both_71 : decode cX4_both 71 = .ok (.iload 5, 2) := by decide +kernel
theorem dX4_both_73 : decode cX4_both 73 = .ok (.invokevirtual 133, 3) := by decide +kernel
theorem dX4_both_76 : decode cX4_both 76 = .ok (.if_icmp .gt 7, 3) := by decide +kernel
theorem dX4_both_79 : decode cX4_both 79 = .ok (.iconst 1, 1) := by decide +kernel
theorem dX4_both_80 : decode cX4_both 80 = .ok (.goto 4, 3) := by decide +kernel
theorem dX4_both_83 : decode cX4_both 83 = .ok (.iconst 0, 1) := by decide +kernel
theorem dX4_both_84 : decode cX4_both 84 = .ok (.istore 6, 2) := by decide +kernel
theorem dX4_both_86 : decode cX4_both 86 = .ok (.iload 6, 2) := by decide +kernel
theorem dX4_both_88 : decode cX4_both 88 = .ok (.ifCond .eq 8, 3) := by decide +kernel
theorem dX4_both_91 : decode cX4_both 91 = .ok (.iload 4, 2) := by decide +kernel
theorem dX4_both_93 : decode cX4_both 93 = .ok (.goto 5, 3) := by decide +kernel
theorem dX4_both_96 : decode cX4_both 96 = .ok (.iload 5, 2) := by decide +kernel
theorem dX4_both_98 : decode cX4_both 98 = .ok (.istore 7, 2) := by decide +kernel
theorem dX4_both_100 : decode cX4_both 100 = .ok (.aload_n 0, 1) := by decide +kernel
theorem dX4_both_101 : decode cX4_both 101 = .ok (.iload 7, 2) := by decide +kernel
theorem dX4_both_103 : decode cX4_both 103 = .ok (.invokevirtual 133, 3) := by decide +kernel
theorem dX4_both_106 : decode cX4_both 106 = .ok (.aload_n 0, 1) := by decide +kernel
theorem dX4_both_107 : decode cX4_both 107 = .ok (.getfield 16, 3) := by decide +kernel
theorem dX4_both_110 : decode cX4_both 110 = .ok (.iload_n 2, 1) := by decide +kernel
theorem dX4_both_111 : decode cX4_both 111 = .ok (.imul, 1) := by decide +kernel
theorem dX4_both_112 : decode cX4_both 112 = .ok (.iadd, 1) := by decide +kernel
theorem dX4_both_113 : decode cX4_both 113 = .ok (.istore 8, 2) := by decide +kernel
theorem dX4_both_115 : decode cX4_both 115 = .ok (.iload_n 3, 1) := by decide +kernel
theorem dX4_both_116 : decode cX4_both 116 = .ok (.tableswitch 61 0 2 #[28, 31, 56], 28) := by decide +kernel
theorem dX4_both_144 : decode cX4_both 144 = .ok (.iload 8, 2) := by decide +kernel
theorem dX4_both_146 : decode cX4_both 146 = .ok (.ireturn, 1) := by decide +kernel
theorem dX4_both_147 : decode cX4_both 147 = .ok (.aload_n 0, 1) := by decide +kernel
theorem dX4_both_148 : decode cX4_both 148 = .ok (.iload 7, 2) := by decide +kernel
theorem dX4_both_150 : decode cX4_both 150 = .ok (.invokevirtual 133, 3) := by decide +kernel
theorem dX4_both_153 : decode cX4_both 153 = .ok (.aload_n 0, 1) := by decide +kernel
theorem dX4_both_154 : decode cX4_both 154 = .ok (.getfield 29, 3) := by decide +kernel
theorem dX4_both_157 : decode cX4_both 157 = .ok (.iload 7, 2) := by decide +kernel
theorem dX4_both_159 : decode cX4_both 159 = .ok (.iaload, 1) := by decide +kernel
theorem dX4_both_160 : decode cX4_both 160 = .ok (.aload_n 0, 1) := by decide +kernel
theorem dX4_both_161 : decode cX4_both 161 = .ok (.getfield 16, 3) := by decide +kernel
theorem dX4_both_164 : decode cX4_both 164 = .ok (.aload_n 0, 1) := by decide +kernel
theorem dX4_both_165 : decode cX4_both 165 = .ok (.getfield 19, 3) := by decide +kernel
theorem dX4_both_168 : decode cX4_both 168 = .ok (.iadd, 1) := by decide +kernel
theorem dX4_both_169 : decode cX4_both 169 = .ok (.imul, 1) := by decide +kernel
theorem dX4_both_170 : decode cX4_both 170 = .ok (.iadd, 1) := by decide +kernel
theorem dX4_both_171 : decode cX4_both 171 = .ok (.ireturn, 1) := by decide +kernel
theorem dX4_both_172 : decode cX4_both 172 = .ok (.iload 7, 2) := by decide +kernel
theorem dX4_both_174 : decode cX4_both 174 = .ok (.iconst 2, 1) := by decide +kernel
theorem dX4_both_175 : decode cX4_both 175 = .ok (.irem, 1) := by decide +kernel
theorem dX4_both_176 : decode cX4_both 176 = .ok (.ireturn, 1) := by decide +kernel
theorem dX4_both_177 : decode cX4_both 177 = .ok (.iload 8, 2) := by decide +kernel
theorem dX4_both_179 : decode cX4_both 179 = .ok (.aload_n 0, 1) := by decide +kernel
theorem dX4_both_180 : decode cX4_both 180 = .ok (.getfield 16, 3) := by decide +kernel
theorem dX4_both_183 : decode cX4_both 183 = .ok (.iload_n 2, 1) := by decide +kernel
theorem dX4_both_184 : decode cX4_both 184 = .ok (.imul, 1) := by decide +kernel
theorem dX4_both_185 : decode cX4_both 185 = .ok (.iload_n 3, 1) := by decide +kernel
theorem dX4_both_186 : decode cX4_both 186 = .ok (.iconst 3, 1) := by decide +kernel
theorem dX4_both_187 : decode cX4_both 187 = .ok (.isub, 1) := by decide +kernel
theorem dX4_both_188 : decode cX4_both 188 = .ok (.invokestatic 69, 3) := by decide +kernel
theorem dX4_both_191 : decode cX4_both 191 = .ok (.ireturn, 1) := by decide +kernel
theorem dX4_end_0 : decode cX4_end 0 = .ok (.iconst 0, 1) := by decide +kernel
theorem dX4_end_1 : decode cX4_end 1 = .ok (.istore_n 1, 1) := by decide +kernel
theorem dX4_end_2 : decode cX4_end 2 = .ok (.iconst 0, 1) := by decide +kernel
theorem dX4_end_3 : decode cX4_end 3 = .ok (.istore_n 2, 1) := by decide +kernel
theorem dX4_end_4 : decode cX4_end 4 = .ok (.iconst 0, 1) := by decide +kernel
theorem dX4_end_5 : decode cX4_end 5 = .ok (.istore_n 3, 1) := by decide +kernel
theorem dX4_end_6 : decode cX4_end 6 = .ok (.iload_n 3, 1) := by decide +kernel
theorem dX4_end_7 : decode cX4_end 7 = .ok (.aload_n 0, 1) := by decide +kernel
theorem dX4_end_8 : decode cX4_end 8 = .ok (.getfield 44, 3) := by decide +kernel
theorem dX4_end_11 : decode cX4_end 11 = .ok (.if_icmp .ge 68, 3) := by decide +kernel
theorem dX4_end_14 : decode cX4_end 14 = .ok (.iload_n 1, 1) := by decide +kernel
theorem dX4_end_15 : decode cX4_end 15 = .ok (.iload_n 3, 1) := by decide +kernel
theorem dX4_end_16 : decode cX4_end 16 = .ok (.iconst 2, 1) := by decide +kernel
theorem dX4_end_17 : decode cX4_end 17 = .ok (.irem, 1) := by decide +kernel
theorem dX4_end_18 : decode cX4_end 18 = .ok (.ifCond .ne 22, 3) := by decide +kernel
theorem dX4_end_21 : decode cX4_end 21 = .ok (.aload_n 0, 1) := by decide +kernel
theorem dX4_end_22 : decode cX4_end 22 = .ok (.getfield 29, 3) := by decide +kernel
theorem dX4_end_25 : decode cX4_end 25 = .ok (.iload_n 3, 1) := by decide +kernel
theorem dX4_end_26 : decode cX4_end 26 = .ok (.iaload, 1) := by decide +kernel
theorem dX4_end_27 : decode cX4_end 27 = .ok (.aload_n 0, 1) := by decide +kernel
theorem dX4_end_28 : decode cX4_end 28 = .ok (.getfield 16, 3) := by decide +kernel
theorem dX4_end_31 : decode cX4_end 31 = .ok (.aload_n 0, 1) := by decide +kernel
theorem dX4_end_32 : decode cX4_end 32 = .ok (.getfield 19, 3) := by decide +kernel
theorem dX4_end_35 : decode cX4_end 35 = .ok (.iadd, 1) := by decide +kernel
theorem dX4_end_36 : decode cX4_end 36 = .ok (.imul, 1) := by decide +kernel
theorem dX4_end_37 : decode cX4_end 37 = .ok (.goto 4, 3) := by decide +kernel
theorem dX4_end_40 : decode cX4_end 40 = .ok (.iconst 0, 1) := by decide +kernel
theorem dX4_end_41 : decode cX4_end 41 = .ok (.iadd, 1) := by decide +kernel
theorem dX4_end_42 : decode cX4_end 42 = .ok (.istore_n 1, 1) := by decide +kernel
theorem dX4_end_43 : decode cX4_end 43 = .ok (.iload_n 2, 1) := by decide +kernel
theorem dX4_end_44 : decode cX4_end 44 = .ok (.iload_n 3, 1) := by decide +kernel
theorem dX4_end_45 : decode cX4_end 45 = .ok (.iconst 2, 1) := by decide +kernel
theorem dX4_end_46 : decode cX4_end 46 = .ok (.irem, 1) := by decide +kernel
theorem dX4_end_47 : decode cX4_end 47 = .ok (.iconst 1, 1) := by decide +kernel
theorem dX4_end_48 : decode cX4_end 48 = .ok (.if_icmp .ne 22, 3) := by decide +kernel
theorem dX4_end_51 : decode cX4_end 51 = .ok (.aload_n 0, 1) := by decide +kernel
theorem dX4_end_52 : decode cX4_end 52 = .ok (.getfield 29, 3) := by decide +kernel
theorem dX4_end_55 : decode cX4_end 55 = .ok (.iload_n 3, 1) := by decide +kernel
theorem dX4_end_56 : decode cX4_end 56 = .ok (.iaload, 1) := by decide +kernel
theorem dX4_end_57 : decode cX4_end 57 = .ok (.aload_n 0, 1) := by decide +kernel
theorem dX4_end_58 : decode cX4_end 58 = .ok (.getfield 16, 3) := by decide +kernel
theorem dX4_end_61 : decode cX4_end 61 = .ok (.aload_n 0, 1) := by decide +kernel
theorem dX4_end_62 : decode cX4_end 62 = .ok (.getfield 19, 3) := by decide +kernel
theorem dX4_end_65 : decode cX4_end 65 = .ok (.iadd, 1) := by decide +kernel
theorem dX4_end_66 : decode cX4_end 66 = .ok (.imul, 1) := by decide +kernel
theorem dX4_end_67 : decode cX4_end 67 = .ok (.goto 4, 3) := by decide +kernel
theorem dX4_end_70 : decode cX4_end 70 = .ok (.iconst 0, 1) := by decide +kernel
theorem dX4_end_71 : decode cX4_end 71 = .ok (.iadd, 1) := by decide +kernel
theorem dX4_end_72 : decode cX4_end 72 = .ok (.istore_n 2, 1) := by decide +kernel
theorem dX4_end_73 : decode cX4_end 73 = .ok (.iinc 3 1, 3) := by decide +kernel
theorem dX4_end_76 : decode cX4_end 76 = .ok (.goto (-70), 3) := by decide +kernel
theorem dX4_end_79 : decode cX4_end 79 = .ok (.iload_n 1, 1) := by decide +kernel
theorem dX4_end_80 : decode cX4_end 80 = .ok (.iload_n 2, 1) := by decide +kernel
theorem dX4_end_81 : decode cX4_end 81 = .ok (.if_icmp .le 7, 3) := by decide +kernel
theorem dX4_end_84 : decode cX4_end 84 = .ok (.iload_n 1, 1) := by decide +kernel
theorem dX4_end_85 : decode cX4_end 85 = .ok (.goto 4, 3) := by decide +kernel
theorem dX4_end_88 : decode cX4_end 88 = .ok (.iload_n 2, 1) := by decide +kernel
theorem dX4_end_89 : decode cX4_end 89 = .ok (.ireturn, 1) := by decide +kernel
theorem dX4_told_0 : decode cX4_told 0 = .ok (.iload_n 1, 1) := by decide +kernel
theorem dX4_told_1 : decode cX4_told 1 = .ok (.tableswitch 83 0 6 #[43, 48, 53, 58, 63, 68, 74], 43) := by decide +kernel
theorem dX4_told_44 : decode cX4_told 44 = .ok (.aload_n 0, 1) := by decide +kernel
theorem dX4_told_45 : decode cX4_told 45 = .ok (.getfield 7, 3) := by decide +kernel
theorem dX4_told_48 : decode cX4_told 48 = .ok (.ireturn, 1) := by decide +kernel
theorem dX4_told_49 : decode cX4_told 49 = .ok (.aload_n 0, 1) := by decide +kernel
theorem dX4_told_50 : decode cX4_told 50 = .ok (.getfield 13, 3) := by decide +kernel
theorem dX4_told_53 : decode cX4_told 53 = .ok (.ireturn, 1) := by decide +kernel
theorem dX4_told_54 : decode cX4_told 54 = .ok (.aload_n 0, 1) := by decide +kernel
theorem dX4_told_55 : decode cX4_told 55 = .ok (.getfield 16, 3) := by decide +kernel
theorem dX4_told_58 : decode cX4_told 58 = .ok (.ireturn, 1) := by decide +kernel
theorem dX4_told_59 : decode cX4_told 59 = .ok (.aload_n 0, 1) := by decide +kernel
theorem dX4_told_60 : decode cX4_told 60 = .ok (.getfield 19, 3) := by decide +kernel
theorem dX4_told_63 : decode cX4_told 63 = .ok (.ireturn, 1) := by decide +kernel
theorem dX4_told_64 : decode cX4_told 64 = .ok (.aload_n 0, 1) := by decide +kernel
theorem dX4_told_65 : decode cX4_told 65 = .ok (.getfield 44, 3) := by decide +kernel
theorem dX4_told_68 : decode cX4_told 68 = .ok (.ireturn, 1) := by decide +kernel
theorem dX4_told_69 : decode cX4_told 69 = .ok (.aload_n 0, 1) := by decide +kernel
theorem dX4_told_70 : decode cX4_told 70 = .ok (.iconst 0, 1) := by decide +kernel
theorem dX4_told_71 : decode cX4_told 71 = .ok (.invokevirtual 82, 3) := by decide +kernel
theorem dX4_told_74 : decode cX4_told 74 = .ok (.ireturn, 1) := by decide +kernel
theorem dX4_told_75 : decode cX4_told 75 = .ok (.aload_n 0, 1) := by decide +kernel
theorem dX4_told_76 : decode cX4_told 76 = .ok (.aload_n 0, 1) := by decide +kernel
theorem dX4_told_77 : decode cX4_told 77 = .ok (.getfield 44, 3) := by decide +kernel
theorem dX4_told_80 : decode cX4_told 80 = .ok (.invokevirtual 55, 3) := by decide +kernel
theorem dX4_told_83 : decode cX4_told 83 = .ok (.ireturn, 1) := by decide +kernel
theorem dX4_told_84 : decode cX4_told 84 = .ok (.bipush (-2), 2) := by decide +kernel
theorem dX4_told_86 : decode cX4_told 86 = .ok (.ireturn, 1) := by decide +kernel
