theorem dX3_init_0 : decode cX3_init 0 = .ok (.aload_n 0, 1) := by decide +kernel
theorem dX3_init_1 : decode cX3_init 1 = .ok (.invokespecial 3, 3) := by decide +kernel
theorem dX3_init_4 : decode cX3_init 4 = .ok (.aload_n 0, 1) := by decide +kernel
theorem dX3_init_5 : decode cX3_init 5 = .ok (.iconst 1, 1) := by decide +kernel
theorem dX3_init_6 : decode cX3_init 6 = .ok (.putfield 9, 3) := by decide +kernel
theorem dX3_init_9 : decode cX3_init 9 = .ok (.aload_n 0, 1) := by decide +kernel
theorem dX3_init_10 : decode cX3_init 10 = .ok (.iconst 1, 1) := by decide +kernel
theorem dX3_init_11 : decode cX3_init 11 = .ok (.putfield 13, 3) := by decide +kernel
theorem dX3_init_14 : decode cX3_init 14 = .ok (.aload_n 0, 1) := by decide +kernel
theorem dX3_init_15 : decode cX3_init 15 = .ok (.new 16, 3) := by decide +kernel
theorem dX3_init_18 : decode cX3_init 18 = .ok (.dup, 1) := by decide +kernel
theorem dX3_init_19 : decode cX3_init 19 = .ok (.invokespecial 18, 3) := by decide +kernel
theorem dX3_init_22 : decode cX3_init 22 = .ok (.putfield 19, 3) := by decide +kernel
theorem dX3_init_25 : decode cX3_init 25 = .ok (.aload_n 0, 1) := by decide +kernel
theorem dX3_init_26 : decode cX3_init 26 = .ok (.new 23, 3) := by decide +kernel
theorem dX3_init_29 : decode cX3_init 29 = .ok (.dup, 1) := by decide +kernel
theorem dX3_init_30 : decode cX3_init 30 = .ok (.invokespecial 25, 3) := by decide +kernel
theorem dX3_init_33 : decode cX3_init 33 = .ok (.putfield 26, 3) := by decide +kernel
theorem dX3_init_36 : decode cX3_init 36 = .ok (.aload_n 0, 1) := by decide +kernel
theorem dX3_init_37 : decode cX3_init 37 = .ok (.new 30, 3) := by decide +kernel
theorem dX3_init_40 : decode cX3_init 40 = .ok (.dup, 1) := by decide +kernel
theorem dX3_init_41 : decode cX3_init 41 = .ok (.invokespecial 32, 3) := by decide +kernel
theorem dX3_init_44 : decode cX3_init 44 = .ok (.putfield 33, 3) := by decide +kernel
theorem dX3_init_47 : decode cX3_init 47 = .ok (.aload_n 0, 1) := by decide +kernel
theorem dX3_init_48 : decode cX3_init 48 = .ok (.new 23, 3) := by decide +kernel
theorem dX3_init_51 : decode cX3_init 51 = .ok (.dup, 1) := by decide +kernel
theorem dX3_init_52 : decode cX3_init 52 = .ok (.invokespecial 25, 3) := by decide +kernel
theorem dX3_init_55 : decode cX3_init 55 = .ok (.putfield 37, 3) := by decide +kernel
theorem dX3_init_58 : decode cX3_init 58 = .ok (.aload_n 0, 1) := by decide +kernel
theorem dX3_init_59 : decode cX3_init 59 = .ok (.new 23, 3) := by decide +kernel
theorem dX3_init_62 : decode cX3_init 62 = .ok (.dup, 1) := by decide +kernel
theorem dX3_init_63 : decode cX3_init 63 = .ok (.invokespecial 25, 3) := by decide +kernel
theorem dX3_init_66 : decode cX3_init 66 = .ok (.putfield 40, 3) := by decide +kernel
theorem dX3_init_69 : decode cX3_init 69 = .ok (.aload_n 0, 1) := by decide +kernel
theorem dX3_init_70 : decode cX3_init 70 = .ok (.iconst 0, 1) := by decide +kernel
theorem dX3_init_71 : decode cX3_init 71 = .ok (.putfield 43, 3) := by decide +kernel
theorem dX3_init_74 : decode cX3_init 74 = .ok (.aload_n 0, 1) := by decide +kernel
theorem dX3_init_75 : decode cX3_init 75 = .ok (.iconst 0, 1) := by decide +kernel
theorem dX3_init_76 : decode cX3_init 76 = .ok (.putfield 47, 3) := by decide +kernel
theorem dX3_init_79 : decode cX3_init 79 = .ok (.aload_n 0, 1) := by decide +kernel
theorem dX3_init_80 : decode cX3_init 80 = .ok (.iconst 0, 1) := by decide +kernel
theorem dX3_init_81 : decode cX3_init 81 = .ok (.putfield 50, 3) := by decide +kernel
theorem dX3_init_84 : decode cX3_init 84 = .ok (.aload_n 0, 1) := by decide +kernel
theorem dX3_init_85 : decode cX3_init 85 = .ok (.iconst 0, 1) := by decide +kernel
theorem dX3_init_86 : decode cX3_init 86 = .ok (.putfield 53, 3) := by decide +kernel
theorem dX3_init_89 : decode cX3_init 89 = .ok (.return_, 1) := by decide +kernel
theorem dX3_rays_0 : decode cX3_rays 0 = .ok (.iload_n 1, 1) := by decide +kernel
theorem dX3_rays_1 : decode cX3_rays 1 = .ok (.iconst 2, 1) := by decide +kernel
theorem dX3_rays_2 : decode cX3_rays 2 = .ok (.if_icmp .lt 19, 3) := by decide +kernel
theorem dX3_rays_5 : decode cX3_rays 5 = .ok (.iload_n 1, 1) := by decide +kernel
theorem dX3_rays_6 : decode cX3_rays 6 = .ok (.iconst 3, 1) := by decide +kernel
theorem dX3_rays_7 : decode cX3_rays 7 = .ok (.if_icmp .gt 14, 3) := by decide +kernel
theorem dX3_rays_10 : decode cX3_rays 10 = .ok (.iload_n 2, 1) := by decide +kernel
theorem dX3_rays_11 : decode cX3_rays 11 = .ok (.iconst 1, 1) := by decide +kernel
theorem dX3_rays_12 : decode cX3_rays 12 = .ok (.if_icmp .lt 9, 3) := by decide +kernel
theorem dX3_rays_15 : decode cX3_rays 15 = .ok (.iload_n 2, 1) := by decide +kernel
theorem dX3_rays_16 : decode cX3_rays 16 = .ok (.bipush 8, 2) := by decide +kernel
theorem dX3_rays_18 : decode cX3_rays 18 = .ok (.if_icmp .le 6, 3) := by decide +kernel
theorem dX3_rays_21 : decode cX3_rays 21 = .ok (.bipush (-2), 2) := by decide +kernel
theorem dX3_rays_23 : decode cX3_rays 23 = .ok (.ireturn, 1) := by decide +kernel
theorem dX3_rays_24 : decode cX3_rays 24 = .ok (.aload_n 0, 1) := by decide +kernel
theorem dX3_rays_25 : decode cX3_rays 25 = .ok (.getfield 19, 3) := by decide +kernel
theorem dX3_rays_28 : decode cX3_rays 28 = .ok (.iload_n 1, 1) := by decide +kernel
theorem dX3_rays_29 : decode cX3_rays 29 = .ok (.iload_n 2, 1) := by decide +kernel
theorem dX3_rays_30 : decode cX3_rays 30 = .ok (.invokevirtual 56, 3) := by decide +kernel
theorem dX3_rays_33 : decode cX3_rays 33 = .ok (.ifCond .ne 8, 3) := by decide +kernel
theorem dX3_rays_36 : decode cX3_rays 36 = .ok (.aload_n 0, 1) := by decide +kernel
theorem dX3_rays_37 : decode cX3_rays 37 = .ok (.iconst 0, 1) := by decide +kernel
theorem dX3_rays_38 : decode cX3_rays 38 = .ok (.putfield 47, 3) := by decide +kernel
theorem dX3_rays_41 : decode cX3_rays 41 = .ok (.aload_n 0, 1) := by decide +kernel
theorem dX3_rays_42 : decode cX3_rays 42 = .ok (.iconst 0, 1) := by decide +kernel
theorem dX3_rays_43 : decode cX3_rays 43 = .ok (.putfield 43, 3) := by decide +kernel
theorem dX3_rays_46 : decode cX3_rays 46 = .ok (.aload_n 0, 1) := by decide +kernel
theorem dX3_rays_47 : decode cX3_rays 47 = .ok (.getfield 19, 3) := by decide +kernel
theorem dX3_rays_50 : decode cX3_rays 50 = .ok (.iload_n 1, 1) := by decide +kernel
theorem dX3_rays_51 : decode cX3_rays 51 = .ok (.iload_n 2, 1) := by decide +kernel
theorem dX3_rays_52 : decode cX3_rays 52 = .ok (.invokevirtual 60, 3) := by decide +kernel
theorem dX3_rays_55 : decode cX3_rays 55 = .ok (.aload_n 0, 1) := by decide +kernel
theorem dX3_rays_56 : decode cX3_rays 56 = .ok (.getfield 26, 3) := by decide +kernel
theorem dX3_rays_59 : decode cX3_rays 59 = .ok (.invokevirtual 64, 3) := by decide +kernel
theorem dX3_rays_62 : decode cX3_rays 62 = .ok (.iload_n 1, 1) := by decide +kernel
theorem dX3_rays_63 : decode cX3_rays 63 = .ok (.iload_n 2, 1) := by decide +kernel
theorem dX3_rays_64 : decode cX3_rays 64 = .ok (.imul, 1) := by decide +kernel
theorem dX3_rays_65 : decode cX3_rays 65 = .ok (.ireturn, 1) := by decide +kernel
theorem dX3_costs_0 : decode cX3_costs 0 = .ok (.iload_n 1, 1) := by decide +kernel
theorem dX3_costs_1 : decode cX3_costs 1 = .ok (.iconst 1, 1) := by decide +kernel
theorem dX3_costs_2 : decode cX3_costs 2 = .ok (.if_icmp .lt 20, 3) := by decide +kernel
theorem dX3_costs_5 : decode cX3_costs 5 = .ok (.iload_n 1, 1) := by decide +kernel
theorem dX3_costs_6 : decode cX3_costs 6 = .ok (.bipush 9, 2) := by decide +kernel
theorem dX3_costs_8 : decode cX3_costs 8 = .ok (.if_icmp .gt 14, 3) := by decide +kernel
theorem dX3_costs_11 : decode cX3_costs 11 = .ok (.iload_n 2, 1) := by decide +kernel
theorem dX3_costs_12 : decode cX3_costs 12 = .ok (.iconst 1, 1) := by decide +kernel
theorem dX3_costs_13 : decode cX3_costs 13 = .ok (.if_icmp .lt 9, 3) := by decide +kernel
theorem dX3_costs_16 : decode cX3_costs 16 = .ok (.iload_n 2, 1) := by decide +kernel
theorem dX3_costs_17 : decode cX3_costs 17 = .ok (.bipush 9, 2) := by decide +kernel
theorem dX3_costs_19 : decode cX3_costs 19 = .ok (.if_icmp .le 6, 3) := by decide +kernel
theorem dX3_costs_22 : decode cX3_costs 22 = .ok (.bipush (-2), 2) := by decide +kernel
theorem dX3_costs_24 : decode cX3_costs 24 = .ok (.ireturn, 1) := by decide +kernel
theorem dX3_costs_25 : decode cX3_costs 25 = .ok (.aload_n 0, 1) := by decide +kernel
theorem dX3_costs_26 : decode cX3_costs 26 = .ok (.iload_n 1, 1) := by decide +kernel
theorem dX3_costs_27 : decode cX3_costs 27 = .ok (.putfield 9, 3) := by decide +kernel
theorem dX3_costs_30 : decode cX3_costs 30 = .ok (.aload_n 0, 1) := by decide +kernel
theorem dX3_costs_31 : decode cX3_costs 31 = .ok (.iload_n 2, 1) := by decide +kernel
theorem dX3_costs_32 : decode cX3_costs 32 = .ok (.putfield 13, 3) := by decide +kernel
theorem dX3_costs_35 : decode cX3_costs 35 = .ok (.iconst 1, 1) := by decide +kernel
theorem dX3_costs_36 : decode cX3_costs 36 = .ok (.ireturn, 1) := by decide +kernel
theorem dX3_share_0 : decode cX3_share 0 = .ok (.aload_n 0, 1) := by decide +kernel
theorem dX3_share_1 : decode cX3_share 1 = .ok (.getfield 19, 3) := by decide +kernel
theorem dX3_share_4 : decode cX3_share 4 = .ok (.iload_n 1, 1) := by decide +kernel
theorem dX3_share_5 : decode cX3_share 5 = .ok (.iload_n 2, 1) := by decide +kernel
theorem dX3_share_6 : decode cX3_share 6 = .ok (.invokevirtual 67, 3) := by decide +kernel
theorem dX3_share_9 : decode cX3_share 9 = .ok (.ifCond .ne 5, 3) := by decide +kernel
theorem dX3_share_12 : decode cX3_share 12 = .ok (.iconst (-1), 1) := by decide +kernel
theorem dX3_share_13 : decode cX3_share 13 = .ok (.ireturn, 1) := by decide +kernel
theorem dX3_share_14 : decode cX3_share 14 = .ok (.iload_n 3, 1) := by decide +kernel
theorem dX3_share_15 : decode cX3_share 15 = .ok (.ifCond .lt 9, 3) := by decide +kernel
theorem dX3_share_18 : decode cX3_share 18 = .ok (.iload_n 3, 1) := by decide +kernel
theorem dX3_share_19 : decode cX3_share 19 = .ok (.bipush 100, 2) := by decide +kernel
theorem dX3_share_21 : decode cX3_share 21 = .ok (.if_icmp .le 6, 3) := by decide +kernel
theorem dX3_share_24 : decode cX3_share 24 = .ok (.bipush (-2), 2) := by decide +kernel
theorem dX3_share_26 : decode cX3_share 26 = .ok (.ireturn, 1) := by decide +kernel
theorem dX3_share_27 : decode cX3_share 27 = .ok (.aload_n 0, 1) := by decide +kernel
theorem dX3_share_28 : decode cX3_share 28 = .ok (.getfield 19, 3) := by decide +kernel
theorem dX3_share_31 : decode cX3_share 31 = .ok (.iload_n 1, 1) := by decide +kernel
theorem dX3_share_32 : decode cX3_share 32 = .ok (.iload_n 2, 1) := by decide +kernel
theorem dX3_share_33 : decode cX3_share 33 = .ok (.invokevirtual 70, 3) := by decide +kernel
theorem dX3_share_36 : decode cX3_share 36 = .ok (.istore 4, 2) := by decide +kernel
theorem dX3_share_38 : decode cX3_share 38 = .ok (.aload_n 0, 1) := by decide +kernel
theorem dX3_share_39 : decode cX3_share 39 = .ok (.getfield 19, 3) := by decide +kernel
theorem dX3_share_42 : decode cX3_share 42 = .ok (.iload_n 1, 1) := by decide +kernel
theorem dX3_share_43 : decode cX3_share 43 = .ok (.iload_n 2, 1) := by decide +kernel
theorem dX3_share_44 : decode cX3_share 44 = .ok (.iload_n 3, 1) := by decide +kernel
theorem dX3_share_45 : decode cX3_share 45 = .ok (.invokevirtual 74, 3) := by decide +kernel
theorem dX3_share_48 : decode cX3_share 48 = .ok (.iload_n 3, 1) := by decide +kernel
theorem dX3_share_49 : decode cX3_share 49 = .ok (.iload 4, 2) := by decide +kernel
theorem dX3_share_51 : decode cX3_share 51 = .ok (.if_icmp .eq 8, 3) := by decide +kernel
theorem dX3_share_54 : decode cX3_share 54 = .ok (.aload_n 0, 1) := by decide +kernel
theorem dX3_share_55 : decode cX3_share 55 = .ok (.iconst 0, 1) := by decide +kernel
theorem dX3_share_56 : decode cX3_share 56 = .ok (.putfield 43, 3) := by decide +kernel
theorem dX3_share_59 : decode cX3_share 59 = .ok (.iload 4, 2) := by decide +kernel
theorem dX3_share_61 : decode cX3_share 61 = .ok (.ireturn, 1) := by decide +kernel
theorem dX3_shareOf_0 : decode cX3_shareOf 0 = .ok (.aload_n 0, 1) := by decide +kernel
theorem dX3_shareOf_1 : decode cX3_shareOf 1 = .ok (.getfield 19, 3) := by decide +kernel
theorem dX3_shareOf_4 : decode cX3_shareOf 4 = .ok (.iload_n 1, 1) := by decide +kernel
theorem dX3_shareOf_5 : decode cX3_shareOf 5 = .ok (.iload_n 2, 1) := by decide +kernel
theorem dX3_shareOf_6 : decode cX3_shareOf 6 = .ok (.invokevirtual 67, 3) := by decide +kernel
theorem dX3_shareOf_9 : decode cX3_shareOf 9 = .ok (.ifCond .eq 15, 3) := by decide +kernel
theorem dX3_shareOf_12 : decode cX3_shareOf 12 = .ok (.aload_n 0, 1) := by decide +kernel
theorem dX3_shareOf_13 : decode cX3_shareOf 13 = .ok (.getfield 19, 3) := by decide +kernel
theorem dX3_shareOf_16 : decode cX3_shareOf 16 = .ok (.iload_n 1, 1) := by decide +kernel
theorem dX3_shareOf_17 : decode cX3_shareOf 17 = .ok (.iload_n 2, 1) := by decide +kernel
theorem dX3_shareOf_18 : decode cX3_shareOf 18 = .ok (.invokevirtual 70, 3) := by decide +kernel
theorem dX3_shareOf_21 : decode cX3_shareOf 21 = .ok (.goto 4, 3) := by decide +kernel
theorem dX3_shareOf_24 : decode cX3_shareOf 24 = .ok (.iconst (-1), 1) := by decide +kernel
theorem dX3_shareOf_25 : decode cX3_shareOf 25 = .ok (.ireturn, 1) := by decide +kernel
theorem dX3_trip_0 : decode cX3_trip 0 = .ok (.aload_n 0, 1) := by decide +kernel
theorem dX3_trip_1 : decode cX3_trip 1 = .ok (.getfield 19, 3) := by decide +kernel
theorem dX3_trip_4 : decode cX3_trip 4 = .ok (.iload_n 1, 1) := by decide +kernel
theorem dX3_trip_5 : decode cX3_trip 5 = .ok (.iload_n 2, 1) := by decide +kernel
theorem dX3_trip_6 : decode cX3_trip 6 = .ok (.invokevirtual 67, 3) := by decide +kernel
theorem dX3_trip_9 : decode cX3_trip 9 = .ok (.ifCond .ne 5, 3) := by decide +kernel
theorem dX3_trip_12 : decode cX3_trip 12 = .ok (.iconst (-1), 1) := by decide +kernel
theorem dX3_trip_13 : decode cX3_trip 13 = .ok (.ireturn, 1) := by decide +kernel
theorem dX3_trip_14 : decode cX3_trip 14 = .ok (.aload_n 0, 1) := by decide +kernel
theorem dX3_trip_15 : decode cX3_trip 15 = .ok (.getfield 26, 3) := by decide +kernel
theorem dX3_trip_18 : decode cX3_trip 18 = .ok (.getfield 78, 3) := by decide +kernel
theorem dX3_trip_21 : decode cX3_trip 21 = .ok (.istore_n 3, 1) := by decide +kernel
theorem dX3_trip_22 : decode cX3_trip 22 = .ok (.aload_n 0, 1) := by decide +kernel
theorem dX3_trip_23 : decode cX3_trip 23 = .ok (.getfield 26, 3) := by decide +kernel
theorem dX3_trip_26 : decode cX3_trip 26 = .ok (.iload_n 1, 1) := by decide +kernel
theorem dX3_trip_27 : decode cX3_trip 27 = .ok (.iload_n 2, 1) := by decide +kernel
theorem dX3_trip_28 : decode cX3_trip 28 = .ok (.invokevirtual 81, 3) := by decide +kernel
theorem dX3_trip_31 : decode cX3_trip 31 = .ok (.ifCond .eq 7, 3) := by decide +kernel
theorem dX3_trip_34 : decode cX3_trip 34 = .ok (.iload_n 3, 1) := by decide +kernel
theorem dX3_trip_35 : decode cX3_trip 35 = .ok (.goto 5, 3) := by decide +kernel
theorem dX3_trip_38 : decode cX3_trip 38 = .ok (.bipush (-4), 2) := by decide +kernel
theorem dX3_trip_40 : decode cX3_trip 40 = .ok (.ireturn, 1) := by decide +kernel
theorem dX3_tripOf_0 : decode cX3_tripOf 0 = .ok (.aload_n 0, 1) := by decide +kernel
theorem dX3_tripOf_1 : decode cX3_tripOf 1 = .ok (.getfield 26, 3) := by decide +kernel
theorem dX3_tripOf_4 : decode cX3_tripOf 4 = .ok (.iload_n 1, 1) := by decide +kernel
theorem dX3_tripOf_5 : decode cX3_tripOf 5 = .ok (.invokevirtual 84, 3) := by decide +kernel
theorem dX3_tripOf_8 : decode cX3_tripOf 8 = .ok (.ifCond .ne 5, 3) := by decide +kernel
theorem dX3_tripOf_11 : decode cX3_tripOf 11 = .ok (.iconst (-1), 1) := by decide +kernel
theorem dX3_tripOf_12 : decode cX3_tripOf 12 = .ok (.ireturn, 1) := by decide +kernel
theorem dX3_tripOf_13 : decode cX3_tripOf 13 = .ok (.iload_n 2, 1) := by decide +kernel
theorem dX3_tripOf_14 : decode cX3_tripOf 14 = .ok (.tableswitch 58 0 2 #[26, 35, 44], 26) := by decide +kernel
theorem dX3_tripOf_40 : decode cX3_tripOf 40 = .ok (.aload_n 0, 1) := by decide +kernel
theorem dX3_tripOf_41 : decode cX3_tripOf 41 = .ok (.getfield 26, 3) := by decide +kernel
theorem dX3_tripOf_44 : decode cX3_tripOf 44 = .ok (.iload_n 1, 1) := by decide +kernel
theorem dX3_tripOf_45 : decode cX3_tripOf 45 = .ok (.invokevirtual 87, 3) := by decide +kernel
theorem dX3_tripOf_48 : decode cX3_tripOf 48 = .ok (.ireturn, 1) := by decide +kernel
theorem dX3_tripOf_49 : decode cX3_tripOf 49 = .ok (.aload_n 0, 1) := by decide +kernel
theorem dX3_tripOf_50 : decode cX3_tripOf 50 = .ok (.getfield 26, 3) := by decide +kernel
theorem dX3_tripOf_53 : decode cX3_tripOf 53 = .ok (.iload_n 1, 1) := by decide +kernel
theorem dX3_tripOf_54 : decode cX3_tripOf 54 = .ok (.invokevirtual 91, 3) := by decide +kernel
theorem dX3_tripOf_57 : decode cX3_tripOf 57 = .ok (.ireturn, 1) := by decide +kernel
theorem dX3_tripOf_58 : decode cX3_tripOf 58 = .ok (.aload_n 0, 1) := by decide +kernel
theorem dX3_tripOf_59 : decode cX3_tripOf 59 = .ok (.aload_n 0, 1) := by decide +kernel
theorem dX3_tripOf_60 : decode cX3_tripOf 60 = .ok (.getfield 26, 3) := by decide +kernel
theorem dX3_tripOf_63 : decode cX3_tripOf 63 = .ok (.iload_n 1, 1) := by decide +kernel
theorem dX3_tripOf_64 : decode cX3_tripOf 64 = .ok (.iconst (-1), 1) := by decide +kernel
theorem dX3_tripOf_65 : decode cX3_tripOf 65 = .ok (.invokevirtual 94, 3) := by decide +kernel
theorem dX3_tripOf_68 : decode cX3_tripOf 68 = .ok (.invokevirtual 97, 3) := by decide +kernel
theorem dX3_tripOf_71 : decode cX3_tripOf 71 = .ok (.ireturn, 1) := by decide +kernel
theorem dX3_tripOf_72 : decode cX3_tripOf 72 = .ok (.bipush (-2), 2) := by decide +kernel
theorem dX3_tripOf_74 : decode cX3_tripOf 74 = .ok (.ireturn, 1) := by decide +kernel
theorem dX3_drop_0 : decode cX3_drop 0 = .ok (.aload_n 0, 1) := by decide +kernel
theorem dX3_drop_1 : decode cX3_drop 1 = .ok (.getfield 26, 3) := by decide +kernel
theorem dX3_drop_4 : decode cX3_drop 4 = .ok (.invokevirtual 100, 3) := by decide +kernel
theorem dX3_drop_7 : decode cX3_drop 7 = .ok (.ifCond .eq 13, 3) := by decide +kernel
theorem dX3_drop_10 : decode cX3_drop 10 = .ok (.aload_n 0, 1) := by decide +kernel
theorem dX3_drop_11 : decode cX3_drop 11 = .ok (.getfield 26, 3) := by decide +kernel
theorem dX3_drop_14 : decode cX3_drop 14 = .ok (.getfield 78, 3) := by decide +kernel
theorem dX3_drop_17 : decode cX3_drop 17 = .ok (.goto 4, 3) := by decide +kernel
theorem dX3_drop_20 : decode cX3_drop 20 = .ok (.iconst (-1), 1) := by decide +kernel
theorem dX3_drop_21 : decode cX3_drop 21 = .ok (.ireturn, 1) := by decide +kernel
theorem dX3_clear_0 : decode cX3_clear 0 = .ok (.aload_n 0, 1) := by decide +kernel
theorem dX3_clear_1 : decode cX3_clear 1 = .ok (.getfield 26, 3) := by decide +kernel
theorem dX3_clear_4 : decode cX3_clear 4 = .ok (.getfield 78, 3) := by decide +kernel
theorem dX3_clear_7 : decode cX3_clear 7 = .ok (.istore_n 1, 1) := by decide +kernel
theorem dX3_clear_8 : decode cX3_clear 8 = .ok (.aload_n 0, 1) := by decide +kernel
theorem dX3_clear_9 : decode cX3_clear 9 = .ok (.getfield 26, 3) := by decide +kernel
theorem dX3_clear_12 : decode cX3_clear 12 = .ok (.invokevirtual 64, 3) := by decide +kernel
theorem dX3_clear_15 : decode cX3_clear 15 = .ok (.iload_n 1, 1) := by decide +kernel
theorem dX3_clear_16 : decode cX3_clear 16 = .ok (.ireturn, 1) := by decide +kernel
theorem dX3_way_0 : decode cX3_way 0 = .ok (.aload_n 0, 1) := by decide +kernel
theorem dX3_way_1 : decode cX3_way 1 = .ok (.getfield 19, 3) := by decide +kernel
theorem dX3_way_4 : decode cX3_way 4 = .ok (.iload_n 1, 1) := by decide +kernel
theorem dX3_way_5 : decode cX3_way 5 = .ok (.iload_n 2, 1) := by decide +kernel
theorem dX3_way_6 : decode cX3_way 6 = .ok (.invokevirtual 67, 3) := by decide +kernel
theorem dX3_way_9 : decode cX3_way 9 = .ok (.ifCond .eq 12, 3) := by decide +kernel
theorem dX3_way_12 : decode cX3_way 12 = .ok (.aload_n 0, 1) := by decide +kernel
theorem dX3_way_13 : decode cX3_way 13 = .ok (.iload_n 1, 1) := by decide +kernel
theorem dX3_way_14 : decode cX3_way 14 = .ok (.iload_n 2, 1) := by decide +kernel
theorem dX3_way_15 : decode cX3_way 15 = .ok (.invokevirtual 104, 3) := by decide +kernel
theorem dX3_way_18 : decode cX3_way 18 = .ok (.goto 4, 3) := by decide +kernel
theorem dX3_way_21 : decode cX3_way 21 = .ok (.iconst (-1), 1) := by decide +kernel
theorem dX3_way_22 : decode cX3_way 22 = .ok (.ireturn, 1) := by decide +kernel
theorem dX3_late_0 : decode cX3_late 0 = .ok (.aload_n 0, 1) := by decide +kernel
theorem dX3_late_1 : decode cX3_late 1 = .ok (.getfield 19, 3) := by decide +kernel
theorem dX3_late_4 : decode cX3_late 4 = .ok (.iload_n 1, 1) := by decide +kernel
theorem dX3_late_5 : decode cX3_late 5 = .ok (.iload_n 2, 1) := by decide +kernel
theorem dX3_late_6 : decode cX3_late 6 = .ok (.invokevirtual 67, 3) := by decide +kernel
theorem dX3_late_9 : decode cX3_late 9 = .ok (.ifCond .ne 5, 3) := by decide +kernel
theorem dX3_late_12 : decode cX3_late 12 = .ok (.iconst (-1), 1) := by decide +kernel
theorem dX3_late_13 : decode cX3_late 13 = .ok (.ireturn, 1) := by decide +kernel
theorem dX3_late_14 : decode cX3_late 14 = .ok (.iload_n 3, 1) := by decide +kernel
theorem dX3_late_15 : decode cX3_late 15 = .ok (.ifCond .lt 8, 3) := by decide +kernel
theorem dX3_late_18 : decode cX3_late 18 = .ok (.iload_n 3, 1) := by decide +kernel
theorem dX3_late_19 : decode cX3_late 19 = .ok (.iconst 1, 1) := by decide +kernel
theorem dX3_late_20 : decode cX3_late 20 = .ok (.if_icmp .le 6, 3) := by decide +kernel
theorem dX3_late_23 : decode cX3_late 23 = .ok (.bipush (-2), 2) := by decide +kernel
theorem dX3_late_25 : decode cX3_late 25 = .ok (.ireturn, 1) := by decide +kernel
theorem dX3_late_26 : decode cX3_late 26 = .ok (.aload_n 0, 1) := by decide +kernel
theorem dX3_late_27 : decode cX3_late 27 = .ok (.iload_n 1, 1) := by decide +kernel
theorem dX3_late_28 : decode cX3_late 28 = .ok (.iload_n 2, 1) := by decide +kernel
theorem dX3_late_29 : decode cX3_late 29 = .ok (.invokevirtual 104, 3) := by decide +kernel
theorem dX3_late_32 : decode cX3_late 32 = .ok (.istore 4, 2) := by decide +kernel
theorem dX3_late_34 : decode cX3_late 34 = .ok (.iload 4, 2) := by decide +kernel
theorem dX3_late_36 : decode cX3_late 36 = .ok (.bipush (-6), 2) := by decide +kernel
theorem dX3_late_38 : decode cX3_late 38 = .ok (.if_icmp .ne 8, 3) := by decide +kernel
theorem dX3_late_41 : decode cX3_late 41 = .ok (.bipush (-6), 2) := by decide +kernel
theorem dX3_late_43 : decode cX3_late 43 = .ok (.goto 15, 3) := by decide +kernel
theorem dX3_late_46 : decode cX3_late 46 = .ok (.iload 4, 2) := by decide +kernel
theorem dX3_late_48 : decode cX3_late 48 = .ok (.aload_n 0, 1) := by decide +kernel
theorem dX3_late_49 : decode cX3_late 49 = .ok (.getfield 9, 3) := by decide +kernel
theorem dX3_late_52 : decode cX3_late 52 = .ok (.iload_n 2, 1) := by decide +kernel
theorem dX3_late_53 : decode cX3_late 53 = .ok (.imul, 1) := by decide +kernel
theorem dX3_late_54 : decode cX3_late 54 = .ok (.iload_n 3, 1) := by decide +kernel
theorem dX3_late_55 : decode cX3_late 55 = .ok (.invokestatic 107, 3) := by decide +kernel
theorem dX3_late_58 : decode cX3_late 58 = .ok (.ireturn, 1) := by decide +kernel
theorem dX3_worst_0 : decode cX3_worst 0 = .ok (.iload_n 1, 1) := by decide +kernel
theorem dX3_worst_1 : decode cX3_worst 1 = .ok (.ifCond .lt 8, 3) := by decide +kernel
theorem dX3_worst_4 : decode cX3_worst 4 = .ok (.iload_n 1, 1) := by decide +kernel
theorem dX3_worst_5 : decode cX3_worst 5 = .ok (.iconst 3, 1) := by decide +kernel
theorem dX3_worst_6 : decode cX3_worst 6 = .ok (.if_icmp .le 6, 3) := by decide +kernel
theorem dX3_worst_9 : decode cX3_worst 9 = .ok (.bipush (-2), 2) := by decide +kernel
theorem dX3_worst_11 : decode cX3_worst 11 = .ok (.ireturn, 1) := by decide +kernel
theorem dX3_worst_12 : decode cX3_worst 12 = .ok (.aload_n 0, 1) := by decide +kernel
theorem dX3_worst_13 : decode cX3_worst 13 = .ok (.invokevirtual 111, 3) := by decide +kernel
theorem dX3_worst_16 : decode cX3_worst 16 = .ok (.ifCond .le 6, 3) := by decide +kernel
theorem dX3_worst_19 : decode cX3_worst 19 = .ok (.bipush (-3), 2) := by decide +kernel
theorem dX3_worst_21 : decode cX3_worst 21 = .ok (.ireturn, 1) := by decide +kernel
theorem dX3_worst_22 : decode cX3_worst 22 = .ok (.aload_n 0, 1) := by decide +kernel
theorem dX3_worst_23 : decode cX3_worst 23 = .ok (.invokevirtual 115, 3) := by decide +kernel
theorem dX3_worst_26 : decode cX3_worst 26 = .ok (.istore_n 2, 1) := by decide +kernel
theorem dX3_worst_27 : decode cX3_worst 27 = .ok (.iload_n 2, 1) := by decide +kernel
theorem dX3_worst_28 : decode cX3_worst 28 = .ok (.bipush 10, 2) := by decide +kernel
theorem dX3_worst_30 : decode cX3_worst 30 = .ok (.idiv, 1) := by decide +kernel
theorem dX3_worst_31 : decode cX3_worst 31 = .ok (.istore_n 3, 1) := by decide +kernel
theorem dX3_worst_32 : decode cX3_worst 32 = .ok (.iload_n 2, 1) := by decide +kernel
theorem dX3_worst_33 : decode cX3_worst 33 = .ok (.bipush 10, 2) := by decide +kernel
theorem dX3_worst_35 : decode cX3_worst 35 = .ok (.irem, 1) := by decide +kernel
theorem dX3_worst_36 : decode cX3_worst 36 = .ok (.istore 4, 2) := by decide +kernel
theorem dX3_worst_38 : decode cX3_worst 38 = .ok (.iload_n 1, 1) := by decide +kernel
theorem dX3_worst_39 : decode cX3_worst 39 = .ok (.iconst 2, 1) := by decide +kernel
theorem dX3_worst_40 : decode cX3_worst 40 = .ok (.if_icmp .ne 5, 3) := by decide +kernel
theorem dX3_worst_43 : decode cX3_worst 43 = .ok (.iload_n 3, 1) := by decide +kernel
theorem dX3_worst_44 : decode cX3_worst 44 = .ok (.ireturn, 1) := by decide +kernel
theorem dX3_worst_45 : decode cX3_worst 45 = .ok (.iload_n 1, 1) := by decide +kernel
theorem dX3_worst_46 : decode cX3_worst 46 = .ok (.iconst 3, 1) := by decide +kernel
theorem dX3_worst_47 : decode cX3_worst 47 = .ok (.if_icmp .ne 6, 3) := by decide +kernel
theorem dX3_worst_50 : decode cX3_worst 50 = .ok (.iload 4, 2) := by decide +kernel
theorem dX3_worst_52 : decode cX3_worst 52 = .ok (.ireturn, 1) := by decide +kernel
theorem dX3_worst_53 : decode cX3_worst 53 = .ok (.aload_n 0, 1) := by decide +kernel
theorem dX3_worst_54 : decode cX3_worst 54 = .ok (.iload_n 3, 1) := by decide +kernel
theorem dX3_worst_55 : decode cX3_worst 55 = .ok (.iload 4, 2) := by decide +kernel
theorem dX3_worst_57 : decode cX3_worst 57 = .ok (.invokevirtual 104, 3) := by decide +kernel
theorem dX3_worst_60 : decode cX3_worst 60 = .ok (.aload_n 0, 1) := by decide +kernel
theorem dX3_worst_61 : decode cX3_worst 61 = .ok (.getfield 9, 3) := by decide +kernel
theorem dX3_worst_64 : decode cX3_worst 64 = .ok (.iload 4, 2) := by decide +kernel
theorem dX3_worst_66 : decode cX3_worst 66 = .ok (.imul, 1) := by decide +kernel
theorem dX3_worst_67 : decode cX3_worst 67 = .ok (.iload_n 1, 1) := by decide +kernel
theorem dX3_worst_68 : decode cX3_worst 68 = .ok (.invokestatic 107, 3) := by decide +kernel
theorem dX3_worst_71 : decode cX3_worst 71 = .ok (.ireturn, 1) := by decide +kernel
theorem dX3_mean_0 : decode cX3_mean 0 = .ok (.aload_n 0, 1) := by decide +kernel
theorem dX3_mean_1 : decode cX3_mean 1 = .ok (.invokevirtual 111, 3) := by decide +kernel
theorem dX3_mean_4 : decode cX3_mean 4 = .ok (.ifCond .le 6, 3) := by decide +kernel
theorem dX3_mean_7 : decode cX3_mean 7 = .ok (.bipush (-3), 2) := by decide +kernel
theorem dX3_mean_9 : decode cX3_mean 9 = .ok (.ireturn, 1) := by decide +kernel
theorem dX3_mean_10 : decode cX3_mean 10 = .ok (.iconst 0, 1) := by decide +kernel
theorem dX3_mean_11 : decode cX3_mean 11 = .ok (.istore_n 1, 1) := by decide +kernel
theorem dX3_mean_12 : decode cX3_mean 12 = .ok (.iconst 0, 1) := by decide +kernel
theorem dX3_mean_13 : decode cX3_mean 13 = .ok (.istore_n 2, 1) := by decide +kernel
theorem dX3_mean_14 : decode cX3_mean 14 = .ok (.iload_n 2, 1) := by decide +kernel
theorem dX3_mean_15 : decode cX3_mean 15 = .ok (.aload_n 0, 1) := by decide +kernel
theorem dX3_mean_16 : decode cX3_mean 16 = .ok (.getfield 19, 3) := by decide +kernel
theorem dX3_mean_19 : decode cX3_mean 19 = .ok (.getfield 118, 3) := by decide +kernel
theorem dX3_mean_22 : decode cX3_mean 22 = .ok (.if_icmp .ge 47, 3) := by decide +kernel
theorem dX3_mean_25 : decode cX3_mean 25 = .ok (.iconst 1, 1) := by decide +kernel
theorem dX3_mean_26 : decode cX3_mean 26 = .ok (.istore_n 3, 1) := by decide +kernel
theorem dX3_mean_27 : decode cX3_mean 27 = .ok (.iload_n 3, 1) := by decide +kernel
theorem dX3_mean_28 : decode cX3_mean 28 = .ok (.aload_n 0, 1) := by decide +kernel
theorem dX3_mean_29 : decode cX3_mean 29 = .ok (.getfield 19, 3) := by decide +kernel
theorem dX3_mean_32 : decode cX3_mean 32 = .ok (.getfield 121, 3) := by decide +kernel
theorem dX3_mean_35 : decode cX3_mean 35 = .ok (.if_icmp .gt 28, 3) := by decide +kernel
theorem dX3_mean_38 : decode cX3_mean 38 = .ok (.iload_n 1, 1) := by decide +kernel
theorem dX3_mean_39 : decode cX3_mean 39 = .ok (.aload_n 0, 1) := by decide +kernel
theorem dX3_mean_40 : decode cX3_mean 40 = .ok (.getfield 19, 3) := by decide +kernel
theorem dX3_mean_43 : decode cX3_mean 43 = .ok (.iload_n 2, 1) := by decide +kernel
theorem dX3_mean_44 : decode cX3_mean 44 = .ok (.iload_n 3, 1) := by decide +kernel
theorem dX3_mean_45 : decode cX3_mean 45 = .ok (.invokevirtual 70, 3) := by decide +kernel
theorem dX3_mean_48 : decode cX3_mean 48 = .ok (.aload_n 0, 1) := by decide +kernel
theorem dX3_mean_49 : decode cX3_mean 49 = .ok (.iload_n 2, 1) := by decide +kernel
theorem dX3_mean_50 : decode cX3_mean 50 = .ok (.iload_n 3, 1) := by decide +kernel
theorem dX3_mean_51 : decode cX3_mean 51 = .ok (.invokevirtual 104, 3) := by decide +kernel
theorem dX3_mean_54 : decode cX3_mean 54 = .ok (.imul, 1) := by decide +kernel
theorem dX3_mean_55 : decode cX3_mean 55 = .ok (.iadd, 1) := by decide +kernel
theorem dX3_mean_56 : decode cX3_mean 56 = .ok (.istore_n 1, 1) := by decide +kernel
theorem dX3_mean_57 : decode cX3_mean 57 = .ok (.iinc 3 1, 3) := by decide +kernel
theorem dX3_mean_60 : decode cX3_mean 60 = .ok (.goto (-33), 3) := by decide +kernel
theorem dX3_mean_63 : decode cX3_mean 63 = .ok (.iinc 2 1, 3) := by decide +kernel
theorem dX3_mean_66 : decode cX3_mean 66 = .ok (.goto (-52), 3) := by decide +kernel
theorem dX3_mean_69 : decode cX3_mean 69 = .ok (.iload_n 1, 1) := by decide +kernel
theorem dX3_mean_70 : decode cX3_mean 70 = .ok (.ireturn, 1) := by decide +kernel
theorem dX3_missed_0 : decode cX3_missed 0 = .ok (.iload_n 1, 1) := by decide +kernel
theorem dX3_missed_1 : decode cX3_missed 1 = .ok (.iconst (-1), 1) := by decide +kernel
theorem dX3_missed_2 : decode cX3_missed 2 = .ok (.if_icmp .ne 8, 3) := by decide +kernel
theorem dX3_missed_5 : decode cX3_missed 5 = .ok (.aload_n 0, 1) := by decide +kernel
theorem dX3_missed_6 : decode cX3_missed 6 = .ok (.invokevirtual 111, 3) := by decide +kernel
theorem dX3_missed_9 : decode cX3_missed 9 = .ok (.ireturn, 1) := by decide +kernel
theorem dX3_missed_10 : decode cX3_missed 10 = .ok (.iload_n 1, 1) := by decide +kernel
theorem dX3_missed_11 : decode cX3_missed 11 = .ok (.istore_n 2, 1) := by decide +kernel
theorem dX3_missed_12 : decode cX3_missed 12 = .ok (.iconst 0, 1) := by decide +kernel
theorem dX3_missed_13 : decode cX3_missed 13 = .ok (.istore_n 3, 1) := by decide +kernel
theorem dX3_missed_14 : decode cX3_missed 14 = .ok (.iload_n 3, 1) := by decide +kernel
theorem dX3_missed_15 : decode cX3_missed 15 = .ok (.aload_n 0, 1) := by decide +kernel
theorem dX3_missed_16 : decode cX3_missed 16 = .ok (.getfield 19, 3) := by decide +kernel
theorem dX3_missed_19 : decode cX3_missed 19 = .ok (.getfield 118, 3) := by decide +kernel
theorem dX3_missed_22 : decode cX3_missed 22 = .ok (.if_icmp .ge 61, 3) := by decide +kernel
theorem dX3_missed_25 : decode cX3_missed 25 = .ok (.aload_n 0, 1) := by decide +kernel
theorem dX3_missed_26 : decode cX3_missed 26 = .ok (.getfield 26, 3) := by decide +kernel
theorem dX3_missed_29 : decode cX3_missed 29 = .ok (.iload_n 3, 1) := by decide +kernel
theorem dX3_missed_30 : decode cX3_missed 30 = .ok (.aload_n 0, 1) := by decide +kernel
theorem dX3_missed_31 : decode cX3_missed 31 = .ok (.getfield 26, 3) := by decide +kernel
theorem dX3_missed_34 : decode cX3_missed 34 = .ok (.getfield 78, 3) := by decide +kernel
theorem dX3_missed_37 : decode cX3_missed 37 = .ok (.invokevirtual 124, 3) := by decide +kernel
theorem dX3_missed_40 : decode cX3_missed 40 = .ok (.iconst 1, 1) := by decide +kernel
theorem dX3_missed_41 : decode cX3_missed 41 = .ok (.iadd, 1) := by decide +kernel
theorem dX3_missed_42 : decode cX3_missed 42 = .ok (.istore 4, 2) := by decide +kernel
theorem dX3_missed_44 : decode cX3_missed 44 = .ok (.iload 4, 2) := by decide +kernel
theorem dX3_missed_46 : decode cX3_missed 46 = .ok (.aload_n 0, 1) := by decide +kernel
theorem dX3_missed_47 : decode cX3_missed 47 = .ok (.getfield 19, 3) := by decide +kernel
theorem dX3_missed_50 : decode cX3_missed 50 = .ok (.getfield 121, 3) := by decide +kernel
theorem dX3_missed_53 : decode cX3_missed 53 = .ok (.if_icmp .gt 24, 3) := by decide +kernel
theorem dX3_missed_56 : decode cX3_missed 56 = .ok (.iload_n 2, 1) := by decide +kernel
theorem dX3_missed_57 : decode cX3_missed 57 = .ok (.ifCond .ne 11, 3) := by decide +kernel
theorem dX3_missed_60 : decode cX3_missed 60 = .ok (.bipush 10, 2) := by decide +kernel
theorem dX3_missed_62 : decode cX3_missed 62 = .ok (.iload_n 3, 1) := by decide +kernel
theorem dX3_missed_63 : decode cX3_missed 63 = .ok (.imul, 1) := by decide +kernel
theorem dX3_missed_64 : decode cX3_missed 64 = .ok (.iload 4, 2) := by decide +kernel
theorem dX3_missed_66 : decode cX3_missed 66 = .ok (.iadd, 1) := by decide +kernel
theorem dX3_missed_67 : decode cX3_missed 67 = .ok (.ireturn, 1) := by decide +kernel
theorem dX3_missed_68 : decode cX3_missed 68 = .ok (.iinc 2 (-1), 3) := by decide +kernel
theorem dX3_missed_71 : decode cX3_missed 71 = .ok (.iinc 4 1, 3) := by decide +kernel
theorem dX3_missed_74 : decode cX3_missed 74 = .ok (.goto (-30), 3) := by decide +kernel
theorem dX3_missed_77 : decode cX3_missed 77 = .ok (.iinc 3 1, 3) := by decide +kernel
theorem dX3_missed_80 : decode cX3_missed 80 = .ok (.goto (-66), 3) := by decide +kernel
theorem dX3_missed_83 : decode cX3_missed 83 = .ok (.bipush (-6), 2) := by decide +kernel
theorem dX3_missed_85 : decode cX3_missed 85 = .ok (.ireturn, 1) := by decide +kernel
theorem dX3_finds_0 : decode cX3_finds 0 = .ok (.aload_n 0, 1) := by decide +kernel
theorem dX3_finds_1 : decode cX3_finds 1 = .ok (.getfield 26, 3) := by decide +kernel
theorem dX3_finds_4 : decode cX3_finds 4 = .ok (.iload_n 1, 1) := by decide +kernel
theorem dX3_finds_5 : decode cX3_finds 5 = .ok (.invokevirtual 84, 3) := by decide +kernel
theorem dX3_finds_8 : decode cX3_finds 8 = .ok (.ifCond .ne 5, 3) := by decide +kernel
theorem dX3_finds_11 : decode cX3_finds 11 = .ok (.iconst (-1), 1) := by decide +kernel
theorem dX3_finds_12 : decode cX3_finds 12 = .ok (.ireturn, 1) := by decide +kernel
theorem dX3_finds_13 : decode cX3_finds 13 = .ok (.aload_n 0, 1) := by decide +kernel
theorem dX3_finds_14 : decode cX3_finds 14 = .ok (.getfield 26, 3) := by decide +kernel
theorem dX3_finds_17 : decode cX3_finds 17 = .ok (.iload_n 1, 1) := by decide +kernel
theorem dX3_finds_18 : decode cX3_finds 18 = .ok (.invokevirtual 87, 3) := by decide +kernel
theorem dX3_finds_21 : decode cX3_finds 21 = .ok (.istore_n 2, 1) := by decide +kernel
theorem dX3_finds_22 : decode cX3_finds 22 = .ok (.aload_n 0, 1) := by decide +kernel
theorem dX3_finds_23 : decode cX3_finds 23 = .ok (.getfield 26, 3) := by decide +kernel
theorem dX3_finds_26 : decode cX3_finds 26 = .ok (.iload_n 2, 1) := by decide +kernel
theorem dX3_finds_27 : decode cX3_finds 27 = .ok (.iload_n 1, 1) := by decide +kernel
theorem dX3_finds_28 : decode cX3_finds 28 = .ok (.invokevirtual 124, 3) := by decide +kernel
theorem dX3_finds_31 : decode cX3_finds 31 = .ok (.istore_n 3, 1) := by decide +kernel
theorem dX3_finds_32 : decode cX3_finds 32 = .ok (.aload_n 0, 1) := by decide +kernel
theorem dX3_finds_33 : decode cX3_finds 33 = .ok (.getfield 26, 3) := by decide +kernel
theorem dX3_finds_36 : decode cX3_finds 36 = .ok (.iload_n 1, 1) := by decide +kernel
theorem dX3_finds_37 : decode cX3_finds 37 = .ok (.invokevirtual 91, 3) := by decide +kernel
theorem dX3_finds_40 : decode cX3_finds 40 = .ok (.iload_n 3, 1) := by decide +kernel
theorem dX3_finds_41 : decode cX3_finds 41 = .ok (.if_icmp .le 14, 3) := by decide +kernel
theorem dX3_finds_44 : decode cX3_finds 44 = .ok (.bipush 10, 2) := by decide +kernel
theorem dX3_finds_46 : decode cX3_finds 46 = .ok (.iload_n 2, 1) := by decide +kernel
theorem dX3_finds_47 : decode cX3_finds 47 = .ok (.imul, 1) := by decide +kernel
theorem dX3_finds_48 : decode cX3_finds 48 = .ok (.iload_n 3, 1) := by decide +kernel
theorem dX3_finds_49 : decode cX3_finds 49 = .ok (.iadd, 1) := by decide +kernel
theorem dX3_finds_50 : decode cX3_finds 50 = .ok (.iconst 1, 1) := by decide +kernel
theorem dX3_finds_51 : decode cX3_finds 51 = .ok (.iadd, 1) := by decide +kernel
theorem dX3_finds_52 : decode cX3_finds 52 = .ok (.goto 5, 3) := by decide +kernel
theorem dX3_finds_55 : decode cX3_finds 55 = .ok (.bipush (-6), 2) := by decide +kernel
theorem dX3_finds_57 : decode cX3_finds 57 = .ok (.ireturn, 1) := by decide +kernel
theorem dX3_leastMean_0 : decode cX3_leastMean 0 = .ok (.aload_n 0, 1) := by decide +kernel
theorem dX3_leastMean_1 : decode cX3_leastMean 1 = .ok (.invokevirtual 127, 3) := by decide +kernel
theorem dX3_leastMean_4 : decode cX3_leastMean 4 = .ok (.aload_n 0, 1) := by decide +kernel
theorem dX3_leastMean_5 : decode cX3_leastMean 5 = .ok (.getfield 9, 3) := by decide +kernel
theorem dX3_leastMean_8 : decode cX3_leastMean 8 = .ok (.aload_n 0, 1) := by decide +kernel
theorem dX3_leastMean_9 : decode cX3_leastMean 9 = .ok (.getfield 19, 3) := by decide +kernel
theorem dX3_leastMean_12 : decode cX3_leastMean 12 = .ok (.invokevirtual 130, 3) := by decide +kernel
theorem dX3_leastMean_15 : decode cX3_leastMean 15 = .ok (.imul, 1) := by decide +kernel
theorem dX3_leastMean_16 : decode cX3_leastMean 16 = .ok (.aload_n 0, 1) := by decide +kernel
theorem dX3_leastMean_17 : decode cX3_leastMean 17 = .ok (.aload_n 0, 1) := by decide +kernel
theorem dX3_leastMean_18 : decode cX3_leastMean 18 = .ok (.getfield 50, 3) := by decide +kernel
theorem dX3_leastMean_21 : decode cX3_leastMean 21 = .ok (.invokevirtual 97, 3) := by decide +kernel
theorem dX3_leastMean_24 : decode cX3_leastMean 24 = .ok (.iadd, 1) := by decide +kernel
theorem dX3_leastMean_25 : decode cX3_leastMean 25 = .ok (.ireturn, 1) := by decide +kernel
theorem dX3_meanTrip_0 : decode cX3_meanTrip 0 = .ok (.aload_n 0, 1) := by decide +kernel
theorem dX3_meanTrip_1 : decode cX3_meanTrip 1 = .ok (.invokevirtual 127, 3) := by decide +kernel
theorem dX3_meanTrip_4 : decode cX3_meanTrip 4 = .ok (.aload_n 0, 1) := by decide +kernel
theorem dX3_meanTrip_5 : decode cX3_meanTrip 5 = .ok (.getfield 37, 3) := by decide +kernel
theorem dX3_meanTrip_8 : decode cX3_meanTrip 8 = .ok (.iload_n 1, 1) := by decide +kernel
theorem dX3_meanTrip_9 : decode cX3_meanTrip 9 = .ok (.invokestatic 133, 3) := by decide +kernel
theorem dX3_meanTrip_12 : decode cX3_meanTrip 12 = .ok (.ireturn, 1) := by decide +kernel
theorem dX3_leastWorst_0 : decode cX3_leastWorst 0 = .ok (.iload_n 1, 1) := by decide +kernel
theorem dX3_leastWorst_1 : decode cX3_leastWorst 1 = .ok (.ifCond .lt 8, 3) := by decide +kernel
theorem dX3_leastWorst_4 : decode cX3_leastWorst 4 = .ok (.iload_n 1, 1) := by decide +kernel
theorem dX3_leastWorst_5 : decode cX3_leastWorst 5 = .ok (.iconst 1, 1) := by decide +kernel
theorem dX3_leastWorst_6 : decode cX3_leastWorst 6 = .ok (.if_icmp .le 6, 3) := by decide +kernel
theorem dX3_leastWorst_9 : decode cX3_leastWorst 9 = .ok (.bipush (-2), 2) := by decide +kernel
theorem dX3_leastWorst_11 : decode cX3_leastWorst 11 = .ok (.ireturn, 1) := by decide +kernel
theorem dX3_leastWorst_12 : decode cX3_leastWorst 12 = .ok (.aload_n 0, 1) := by decide +kernel
theorem dX3_leastWorst_13 : decode cX3_leastWorst 13 = .ok (.invokevirtual 137, 3) := by decide +kernel
theorem dX3_leastWorst_16 : decode cX3_leastWorst 16 = .ok (.aload_n 0, 1) := by decide +kernel
theorem dX3_leastWorst_17 : decode cX3_leastWorst 17 = .ok (.invokevirtual 140, 3) := by decide +kernel
theorem dX3_leastWorst_20 : decode cX3_leastWorst 20 = .ok (.aload_n 0, 1) := by decide +kernel
theorem dX3_leastWorst_21 : decode cX3_leastWorst 21 = .ok (.getfield 9, 3) := by decide +kernel
theorem dX3_leastWorst_24 : decode cX3_leastWorst 24 = .ok (.sipush 840, 3) := by decide +kernel
theorem dX3_leastWorst_27 : decode cX3_leastWorst 27 = .ok (.imul, 1) := by decide +kernel
theorem dX3_leastWorst_28 : decode cX3_leastWorst 28 = .ok (.iload_n 1, 1) := by decide +kernel
theorem dX3_leastWorst_29 : decode cX3_leastWorst 29 = .ok (.invokestatic 107, 3) := by decide +kernel
theorem dX3_leastWorst_32 : decode cX3_leastWorst 32 = .ok (.ireturn, 1) := by decide +kernel
theorem dX3_worstTrip_0 : decode cX3_worstTrip 0 = .ok (.aload_n 0, 1) := by decide +kernel
theorem dX3_worstTrip_1 : decode cX3_worstTrip 1 = .ok (.invokevirtual 137, 3) := by decide +kernel
theorem dX3_worstTrip_4 : decode cX3_worstTrip 4 = .ok (.aload_n 0, 1) := by decide +kernel
theorem dX3_worstTrip_5 : decode cX3_worstTrip 5 = .ok (.getfield 40, 3) := by decide +kernel
theorem dX3_worstTrip_8 : decode cX3_worstTrip 8 = .ok (.iload_n 1, 1) := by decide +kernel
theorem dX3_worstTrip_9 : decode cX3_worstTrip 9 = .ok (.invokestatic 133, 3) := by decide +kernel
theorem dX3_worstTrip_12 : decode cX3_worstTrip 12 = .ok (.ireturn, 1) := by decide +kernel
theorem dX3_within_0 : decode cX3_within 0 = .ok (.iload_n 1, 1) := by decide +kernel
theorem dX3_within_1 : decode cX3_within 1 = .ok (.iconst 1, 1) := by decide +kernel
theorem dX3_within_2 : decode cX3_within 2 = .ok (.if_icmp .lt 22, 3) := by decide +kernel
theorem dX3_within_5 : decode cX3_within 5 = .ok (.iload_n 1, 1) := by decide +kernel
theorem dX3_within_6 : decode cX3_within 6 = .ok (.sipush 10000, 3) := by decide +kernel
theorem dX3_within_9 : decode cX3_within 9 = .ok (.if_icmp .gt 15, 3) := by decide +kernel
theorem dX3_within_12 : decode cX3_within 12 = .ok (.iload_n 2, 1) := by decide +kernel
theorem dX3_within_13 : decode cX3_within 13 = .ok (.iconst 1, 1) := by decide +kernel
theorem dX3_within_14 : decode cX3_within 14 = .ok (.if_icmp .lt 10, 3) := by decide +kernel
theorem dX3_within_17 : decode cX3_within 17 = .ok (.iload_n 2, 1) := by decide +kernel
theorem dX3_within_18 : decode cX3_within 18 = .ok (.sipush 10000, 3) := by decide +kernel
theorem dX3_within_21 : decode cX3_within 21 = .ok (.if_icmp .le 6, 3) := by decide +kernel
theorem dX3_within_24 : decode cX3_within 24 = .ok (.bipush (-2), 2) := by decide +kernel
theorem dX3_within_26 : decode cX3_within 26 = .ok (.ireturn, 1) := by decide +kernel
theorem dX3_within_27 : decode cX3_within 27 = .ok (.aload_n 0, 1) := by decide +kernel
theorem dX3_within_28 : decode cX3_within 28 = .ok (.invokevirtual 137, 3) := by decide +kernel
theorem dX3_within_31 : decode cX3_within 31 = .ok (.aload_n 0, 1) := by decide +kernel
theorem dX3_within_32 : decode cX3_within 32 = .ok (.invokevirtual 140, 3) := by decide +kernel
theorem dX3_within_35 : decode cX3_within 35 = .ok (.i2l, 1) := by decide +kernel
theorem dX3_within_36 : decode cX3_within 36 = .ok (.iload_n 2, 1) := by decide +kernel
theorem dX3_within_37 : decode cX3_within 37 = .ok (.i2l, 1) := by decide +kernel
theorem dX3_within_38 : decode cX3_within 38 = .ok (.lmul, 1) := by decide +kernel
theorem dX3_within_39 : decode cX3_within 39 = .ok (.iload_n 1, 1) := by decide +kernel
theorem dX3_within_40 : decode cX3_within 40 = .ok (.i2l, 1) := by decide +kernel
theorem dX3_within_41 : decode cX3_within 41 = .ok (.aload_n 0, 1) := by decide +kernel
theorem dX3_within_42 : decode cX3_within 42 = .ok (.getfield 9, 3) := by decide +kernel
theorem dX3_within_45 : decode cX3_within 45 = .ok (.sipush 840, 3) := by decide +kernel
theorem dX3_within_48 : decode cX3_within 48 = .ok (.imul, 1) := by decide +kernel
theorem dX3_within_49 : decode cX3_within 49 = .ok (.i2l, 1) := by decide +kernel
theorem dX3_within_50 : decode cX3_within 50 = .ok (.lmul, 1) := by decide +kernel
theorem dX3_within_51 : decode cX3_within 51 = .ok (.lcmp, 1) := by decide +kernel
theorem dX3_within_52 : decode cX3_within 52 = .ok (.ifCond .gt 7, 3) := by decide +kernel
theorem dX3_within_55 : decode cX3_within 55 = .ok (.iconst 1, 1) := by decide +kernel
theorem dX3_within_56 : decode cX3_within 56 = .ok (.goto 4, 3) := by decide +kernel
theorem dX3_within_59 : decode cX3_within 59 = .ok (.iconst 0, 1) := by decide +kernel
theorem dX3_within_60 : decode cX3_within 60 = .ok (.ireturn, 1) := by decide +kernel
theorem dX3_take_0 : decode cX3_take 0 = .ok (.iload_n 1, 1) := by decide +kernel
theorem dX3_take_1 : decode cX3_take 1 = .ok (.ifCond .lt 8, 3) := by decide +kernel
theorem dX3_take_4 : decode cX3_take 4 = .ok (.iload_n 1, 1) := by decide +kernel
theorem dX3_take_5 : decode cX3_take 5 = .ok (.iconst 1, 1) := by decide +kernel
theorem dX3_take_6 : decode cX3_take 6 = .ok (.if_icmp .le 6, 3) := by decide +kernel
theorem dX3_take_9 : decode cX3_take 9 = .ok (.bipush (-2), 2) := by decide +kernel
theorem dX3_take_11 : decode cX3_take 11 = .ok (.ireturn, 1) := by decide +kernel
theorem dX3_take_12 : decode cX3_take 12 = .ok (.iload_n 1, 1) := by decide +kernel
theorem dX3_take_13 : decode cX3_take 13 = .ok (.ifCond .ne 21, 3) := by decide +kernel
theorem dX3_take_16 : decode cX3_take 16 = .ok (.aload_n 0, 1) := by decide +kernel
theorem dX3_take_17 : decode cX3_take 17 = .ok (.invokevirtual 127, 3) := by decide +kernel
theorem dX3_take_20 : decode cX3_take 20 = .ok (.aload_n 0, 1) := by decide +kernel
theorem dX3_take_21 : decode cX3_take 21 = .ok (.getfield 26, 3) := by decide +kernel
theorem dX3_take_24 : decode cX3_take 24 = .ok (.aload_n 0, 1) := by decide +kernel
theorem dX3_take_25 : decode cX3_take 25 = .ok (.getfield 37, 3) := by decide +kernel
theorem dX3_take_28 : decode cX3_take 28 = .ok (.invokevirtual 143, 3) := by decide +kernel
theorem dX3_take_31 : decode cX3_take 31 = .ok (.goto 18, 3) := by decide +kernel
theorem dX3_take_34 : decode cX3_take 34 = .ok (.aload_n 0, 1) := by decide +kernel
theorem dX3_take_35 : decode cX3_take 35 = .ok (.invokevirtual 137, 3) := by decide +kernel
theorem dX3_take_38 : decode cX3_take 38 = .ok (.aload_n 0, 1) := by decide +kernel
theorem dX3_take_39 : decode cX3_take 39 = .ok (.getfield 26, 3) := by decide +kernel
theorem dX3_take_42 : decode cX3_take 42 = .ok (.aload_n 0, 1) := by decide +kernel
theorem dX3_take_43 : decode cX3_take 43 = .ok (.getfield 40, 3) := by decide +kernel
theorem dX3_take_46 : decode cX3_take 46 = .ok (.invokevirtual 143, 3) := by decide +kernel
theorem dX3_take_49 : decode cX3_take 49 = .ok (.aload_n 0, 1) := by decide +kernel
theorem dX3_take_50 : decode cX3_take 50 = .ok (.getfield 26, 3) := by decide +kernel
theorem dX3_take_53 : decode cX3_take 53 = .ok (.getfield 78, 3) := by decide +kernel
theorem dX3_take_56 : decode cX3_take 56 = .ok (.ireturn, 1) := by decide +kernel
theorem dX3_both_0 : decode cX3_both 0 = .ok (.aload_n 0, 1) := by decide +kernel
theorem dX3_both_1 : decode cX3_both 1 = .ok (.getfield 19, 3) := by decide +kernel
theorem dX3_both_4 : decode cX3_both 4 = .ok (.iload_n 1, 1) := by decide +kernel
theorem dX3_both_5 : decode cX3_both 5 = .ok (.iload_n 2, 1) := by decide +kernel
theorem dX3_both_6 : decode cX3_both 6 = .ok (.invokevirtual 67, 3) := by decide +kernel
theorem dX3_both_9 : decode cX3_both 9 = .ok (.ifCond .ne 5, 3) := by decide +kernel
theorem dX3_both_12 : decode cX3_both 12 = .ok (.iconst (-1), 1) := by decide +kernel
theorem dX3_both_13 : decode cX3_both 13 = .ok (.ireturn, 1) := by decide +kernel
theorem dX3_both_14 : decode cX3_both 14 = .ok (.iload_n 3, 1) := by decide +kernel
theorem dX3_both_15 : decode cX3_both 15 = .ok (.ifCond .lt 8, 3) := by decide +kernel
theorem dX3_both_18 : decode cX3_both 18 = .ok (.iload_n 3, 1) := by decide +kernel
theorem dX3_both_19 : decode cX3_both 19 = .ok (.iconst 4, 1) := by decide +kernel
theorem dX3_both_20 : decode cX3_both 20 = .ok (.if_icmp .le 6, 3) := by decide +kernel
theorem dX3_both_23 : decode cX3_both 23 = .ok (.bipush (-2), 2) := by decide +kernel
theorem dX3_both_25 : decode cX3_both 25 = .ok (.ireturn, 1) := by decide +kernel
theorem dX3_both_26 : decode cX3_both 26 = .ok (.aload_n 0, 1) := by decide +kernel
theorem dX3_both_27 : decode cX3_both 27 = .ok (.iload_n 1, 1) := by decide +kernel
theorem dX3_both_28 : decode cX3_both 28 = .ok (.iload_n 2, 1) := by decide +kernel
theorem dX3_both_29 : decode cX3_both 29 = .ok (.invokevirtual 147, 3) := by decide +kernel
theorem dX3_both_32 : decode cX3_both 32 = .ok (.istore 4, 2) := by decide +kernel
theorem dX3_both_34 : decode cX3_both 34 = .ok (.aload_n 0, 1) := by decide +kernel
theorem dX3_both_35 : decode cX3_both 35 = .ok (.getfield 26, 3) := by decide +kernel
theorem dX3_both_38 : decode cX3_both 38 = .ok (.iload 4, 2) := by decide +kernel
theorem dX3_both_40 : decode cX3_both 40 = .ok (.invokevirtual 84, 3) := by decide +kernel
theorem dX3_both_43 : decode cX3_both 43 = .ok (.ifCond .ne 6, 3) := by decide +kernel
theorem dX3_both_46 : decode cX3_both 46 = .ok (.bipush (-6), 2) := by decide +kernel
theorem dX3_both_48 : decode cX3_both 48 = .ok (.ireturn, 1) := by decide +kernel
theorem dX3_both_49 : decode cX3_both 49 = .ok (.iload 4, 2) := by decide +kernel
theorem dX3_both_51 : decode cX3_both 51 = .ok (.iconst 2, 1) := by decide +kernel
theorem dX3_both_52 : decode cX3_both 52 = .ok (.irem, 1) := by decide +kernel
theorem dX3_both_53 : decode cX3_both 53 = .ok (.istore 5, 2) := by decide +kernel
theorem dX3_both_55 : decode cX3_both 55 = .ok (.aload_n 0, 1) := by decide +kernel
theorem dX3_both_56 : decode cX3_both 56 = .ok (.getfield 26, 3) := by decide +kernel
theorem dX3_both_59 : decode cX3_both 59 = .ok (.iload 4, 2) := by decide +kernel
theorem dX3_both_61 : decode cX3_both 61 = .ok (.iload 5, 2) := by decide +kernel
theorem dX3_both_63 : decode cX3_both 63 = .ok (.invokevirtual 94, 3) := by decide +kernel
theorem dX3_both_66 : decode cX3_both 66 = .ok (.istore 6, 2) := by decide +kernel
theorem dX3_both_68 : decode cX3_both 68 = .ok (.aload_n 0, 1) := by decide +kernel
theorem dX3_both_69 : decode cX3_both 69 = .ok (.iload 6, 2) := by decide +kernel
theorem dX3_both_71 : decode cX3_both 71 = .ok (.invokevirtual 97, 3) := by decide +kernel
theorem dX3_both_74 : decode cX3_both 74 = .ok (.aload_n 0, 1) := by decide +kernel
theorem dX3_both_75 : decode cX3_both 75 = .ok (.getfield 9, 3) := by decide +kernel
theorem dX3_both_78 : decode cX3_both 78 = .ok (.iload_n 2, 1) := by decide +kernel
theorem dX3_both_79 : decode cX3_both 79 = .ok (.imul, 1) := by decide +kernel
theorem dX3_both_80 : decode cX3_both 80 = .ok (.iadd, 1) := by decide +kernel
theorem dX3_both_81 : decode cX3_both 81 = .ok (.istore 7, 2) := by decide +kernel
theorem dX3_both_83 : decode cX3_both 83 = .ok (.iload_n 3, 1) := by decide +kernel
theorem dX3_both_84 : decode cX3_both 84 = .ok (.tableswitch 51 0 2 #[28, 31, 48], 28) := by decide +kernel
theorem dX3_both_112 : decode cX3_both 112 = .ok (.iload 7, 2) := by decide +kernel
theorem dX3_both_114 : decode cX3_both 114 = .ok (.ireturn, 1) := by decide +kernel
theorem dX3_both_115 : decode cX3_both 115 = .ok (.aload_n 0, 1) := by decide +kernel
theorem dX3_both_116 : decode cX3_both 116 = .ok (.iload 6, 2) := by decide +kernel
theorem dX3_both_118 : decode cX3_both 118 = .ok (.aload_n 0, 1) := by decide +kernel
theorem dX3_both_119 : decode cX3_both 119 = .ok (.getfield 26, 3) := by decide +kernel
theorem dX3_both_122 : decode cX3_both 122 = .ok (.iload 4, 2) := by decide +kernel
theorem dX3_both_124 : decode cX3_both 124 = .ok (.invokevirtual 91, 3) := by decide +kernel
theorem dX3_both_127 : decode cX3_both 127 = .ok (.iadd, 1) := by decide +kernel
theorem dX3_both_128 : decode cX3_both 128 = .ok (.invokevirtual 97, 3) := by decide +kernel
theorem dX3_both_131 : decode cX3_both 131 = .ok (.ireturn, 1) := by decide +kernel
theorem dX3_both_132 : decode cX3_both 132 = .ok (.iload 5, 2) := by decide +kernel
theorem dX3_both_134 : decode cX3_both 134 = .ok (.ireturn, 1) := by decide +kernel
theorem dX3_both_135 : decode cX3_both 135 = .ok (.iload 7, 2) := by decide +kernel
theorem dX3_both_137 : decode cX3_both 137 = .ok (.aload_n 0, 1) := by decide +kernel
theorem dX3_both_138 : decode cX3_both 138 = .ok (.getfield 9, 3) := by decide +kernel
theorem dX3_both_141 : decode cX3_both 141 = .ok (.iload_n 2, 1) := by decide +kernel
theorem dX3_both_142 : decode cX3_both 142 = .ok (.imul, 1) := by decide +kernel
theorem dX3_both_143 : decode cX3_both 143 = .ok (.iload_n 3, 1) := by decide +kernel
theorem dX3_both_144 : decode cX3_both 144 = .ok (.iconst 3, 1) := by decide +kernel
theorem dX3_both_145 : decode cX3_both 145 = .ok (.isub, 1) := by decide +kernel
theorem dX3_both_146 : decode cX3_both 146 = .ok (.invokestatic 107, 3) := by decide +kernel
theorem dX3_both_149 : decode cX3_both 149 = .ok (.ireturn, 1) := by decide +kernel
theorem dX3_end_0 : decode cX3_end 0 = .ok (.aload_n 0, 1) := by decide +kernel
theorem dX3_end_1 : decode cX3_end 1 = .ok (.getfield 26, 3) := by decide +kernel
theorem dX3_end_4 : decode cX3_end 4 = .ok (.getfield 78, 3) := by decide +kernel
theorem dX3_end_7 : decode cX3_end 7 = .ok (.istore_n 1, 1) := by decide +kernel
theorem dX3_end_8 : decode cX3_end 8 = .ok (.aload_n 0, 1) := by decide +kernel
theorem dX3_end_9 : decode cX3_end 9 = .ok (.aload_n 0, 1) := by decide +kernel
theorem dX3_end_10 : decode cX3_end 10 = .ok (.getfield 26, 3) := by decide +kernel
theorem dX3_end_13 : decode cX3_end 13 = .ok (.iload_n 1, 1) := by decide +kernel
theorem dX3_end_14 : decode cX3_end 14 = .ok (.iconst 0, 1) := by decide +kernel
theorem dX3_end_15 : decode cX3_end 15 = .ok (.invokevirtual 94, 3) := by decide +kernel
theorem dX3_end_18 : decode cX3_end 18 = .ok (.aload_n 0, 1) := by decide +kernel
theorem dX3_end_19 : decode cX3_end 19 = .ok (.getfield 26, 3) := by decide +kernel
theorem dX3_end_22 : decode cX3_end 22 = .ok (.iload_n 1, 1) := by decide +kernel
theorem dX3_end_23 : decode cX3_end 23 = .ok (.iconst 1, 1) := by decide +kernel
theorem dX3_end_24 : decode cX3_end 24 = .ok (.invokevirtual 94, 3) := by decide +kernel
theorem dX3_end_27 : decode cX3_end 27 = .ok (.invokestatic 150, 3) := by decide +kernel
theorem dX3_end_30 : decode cX3_end 30 = .ok (.invokevirtual 97, 3) := by decide +kernel
theorem dX3_end_33 : decode cX3_end 33 = .ok (.ireturn, 1) := by decide +kernel
theorem dX3_told_0 : decode cX3_told 0 = .ok (.iload_n 1, 1) := by decide +kernel
theorem dX3_told_1 : decode cX3_told 1 = .ok (.tableswitch 105 0 6 #[43, 51, 59, 64, 69, 77, 85], 43) := by decide +kernel
theorem dX3_told_44 : decode cX3_told 44 = .ok (.aload_n 0, 1) := by decide +kernel
theorem dX3_told_45 : decode cX3_told 45 = .ok (.getfield 19, 3) := by decide +kernel
theorem dX3_told_48 : decode cX3_told 48 = .ok (.getfield 118, 3) := by decide +kernel
theorem dX3_told_51 : decode cX3_told 51 = .ok (.ireturn, 1) := by decide +kernel
theorem dX3_told_52 : decode cX3_told 52 = .ok (.aload_n 0, 1) := by decide +kernel
theorem dX3_told_53 : decode cX3_told 53 = .ok (.getfield 19, 3) := by decide +kernel
theorem dX3_told_56 : decode cX3_told 56 = .ok (.getfield 121, 3) := by decide +kernel
theorem dX3_told_59 : decode cX3_told 59 = .ok (.ireturn, 1) := by decide +kernel
theorem dX3_told_60 : decode cX3_told 60 = .ok (.aload_n 0, 1) := by decide +kernel
theorem dX3_told_61 : decode cX3_told 61 = .ok (.getfield 9, 3) := by decide +kernel
theorem dX3_told_64 : decode cX3_told 64 = .ok (.ireturn, 1) := by decide +kernel
theorem dX3_told_65 : decode cX3_told 65 = .ok (.aload_n 0, 1) := by decide +kernel
theorem dX3_told_66 : decode cX3_told 66 = .ok (.getfield 13, 3) := by decide +kernel
theorem dX3_told_69 : decode cX3_told 69 = .ok (.ireturn, 1) := by decide +kernel
theorem dX3_told_70 : decode cX3_told 70 = .ok (.aload_n 0, 1) := by decide +kernel
theorem dX3_told_71 : decode cX3_told 71 = .ok (.getfield 26, 3) := by decide +kernel
theorem dX3_told_74 : decode cX3_told 74 = .ok (.getfield 78, 3) := by decide +kernel
theorem dX3_told_77 : decode cX3_told 77 = .ok (.ireturn, 1) := by decide +kernel
theorem dX3_told_78 : decode cX3_told 78 = .ok (.aload_n 0, 1) := by decide +kernel
theorem dX3_told_79 : decode cX3_told 79 = .ok (.getfield 19, 3) := by decide +kernel
theorem dX3_told_82 : decode cX3_told 82 = .ok (.invokevirtual 155, 3) := by decide +kernel
theorem dX3_told_85 : decode cX3_told 85 = .ok (.ireturn, 1) := by decide +kernel
theorem dX3_told_86 : decode cX3_told 86 = .ok (.aload_n 0, 1) := by decide +kernel
theorem dX3_told_87 : decode cX3_told 87 = .ok (.aload_n 0, 1) := by decide +kernel
theorem dX3_told_88 : decode cX3_told 88 = .ok (.getfield 26, 3) := by decide +kernel
theorem dX3_told_91 : decode cX3_told 91 = .ok (.aload_n 0, 1) := by decide +kernel
theorem dX3_told_92 : decode cX3_told 92 = .ok (.getfield 26, 3) := by decide +kernel
theorem dX3_told_95 : decode cX3_told 95 = .ok (.getfield 78, 3) := by decide +kernel
theorem dX3_told_98 : decode cX3_told 98 = .ok (.iconst (-1), 1) := by decide +kernel
theorem dX3_told_99 : decode cX3_told 99 = .ok (.invokevirtual 94, 3) := by decide +kernel
theorem dX3_told_102 : decode cX3_told 102 = .ok (.invokevirtual 97, 3) := by decide +kernel
theorem dX3_told_105 : decode cX3_told 105 = .ok (.ireturn, 1) := by decide +kernel
theorem dX3_told_106 : decode cX3_told 106 = .ok (.bipush (-2), 2) := by decide +kernel
theorem dX3_told_108 : decode cX3_told 108 = .ok (.ireturn, 1) := by decide +kernel
theorem dX3_wholeTrips_0 : decode cX3_wholeTrips 0 = .ok (.aload_n 0, 1) := by decide +kernel
theorem dX3_wholeTrips_1 : decode cX3_wholeTrips 1 = .ok (.getfield 9, 3) := by decide +kernel
theorem dX3_wholeTrips_4 : decode cX3_wholeTrips 4 = .ok (.aload_n 0, 1) := by decide +kernel
theorem dX3_wholeTrips_5 : decode cX3_wholeTrips 5 = .ok (.getfield 13, 3) := by decide +kernel
theorem dX3_wholeTrips_8 : decode cX3_wholeTrips 8 = .ok (.iadd, 1) := by decide +kernel
theorem dX3_wholeTrips_9 : decode cX3_wholeTrips 9 = .ok (.iload_n 1, 1) := by decide +kernel
theorem dX3_wholeTrips_10 : decode cX3_wholeTrips 10 = .ok (.imul, 1) := by decide +kernel
theorem dX3_wholeTrips_11 : decode cX3_wholeTrips 11 = .ok (.ireturn, 1) := by decide +kernel
theorem dX3_wayTo_0 : decode cX3_wayTo 0 = .ok (.aload_n 0, 1) := by decide +kernel
theorem dX3_wayTo_1 : decode cX3_wayTo 1 = .ok (.getfield 26, 3) := by decide +kernel
theorem dX3_wayTo_4 : decode cX3_wayTo 4 = .ok (.iload_n 1, 1) := by decide +kernel
theorem dX3_wayTo_5 : decode cX3_wayTo 5 = .ok (.iload_n 2, 1) := by decide +kernel
theorem dX3_wayTo_6 : decode cX3_wayTo 6 = .ok (.iconst (-1), 1) := by decide +kernel
theorem dX3_wayTo_7 : decode cX3_wayTo 7 = .ok (.invokevirtual 158, 3) := by decide +kernel
theorem dX3_wayTo_10 : decode cX3_wayTo 10 = .ok (.istore_n 3, 1) := by decide +kernel
theorem dX3_wayTo_11 : decode cX3_wayTo 11 = .ok (.iload_n 3, 1) := by decide +kernel
theorem dX3_wayTo_12 : decode cX3_wayTo 12 = .ok (.ifCond .ge 8, 3) := by decide +kernel
theorem dX3_wayTo_15 : decode cX3_wayTo 15 = .ok (.bipush (-6), 2) := by decide +kernel
theorem dX3_wayTo_17 : decode cX3_wayTo 17 = .ok (.goto 23, 3) := by decide +kernel
theorem dX3_wayTo_20 : decode cX3_wayTo 20 = .ok (.aload_n 0, 1) := by decide +kernel
theorem dX3_wayTo_21 : decode cX3_wayTo 21 = .ok (.aload_n 0, 1) := by decide +kernel
theorem dX3_wayTo_22 : decode cX3_wayTo 22 = .ok (.getfield 26, 3) := by decide +kernel
theorem dX3_wayTo_25 : decode cX3_wayTo 25 = .ok (.iload_n 3, 1) := by decide +kernel
theorem dX3_wayTo_26 : decode cX3_wayTo 26 = .ok (.iconst (-1), 1) := by decide +kernel
theorem dX3_wayTo_27 : decode cX3_wayTo 27 = .ok (.invokevirtual 94, 3) := by decide +kernel
theorem dX3_wayTo_30 : decode cX3_wayTo 30 = .ok (.invokevirtual 97, 3) := by decide +kernel
theorem dX3_wayTo_33 : decode cX3_wayTo 33 = .ok (.aload_n 0, 1) := by decide +kernel
theorem dX3_wayTo_34 : decode cX3_wayTo 34 = .ok (.getfield 9, 3) := by decide +kernel
theorem dX3_wayTo_37 : decode cX3_wayTo 37 = .ok (.iload_n 2, 1) := by decide +kernel
theorem dX3_wayTo_38 : decode cX3_wayTo 38 = .ok (.imul, 1) := by decide +kernel
theorem dX3_wayTo_39 : decode cX3_wayTo 39 = .ok (.iadd, 1) := by decide +kernel
theorem dX3_wayTo_40 : decode cX3_wayTo 40 = .ok (.ireturn, 1) := by decide +kernel
theorem dX3_countMissed_0 : decode cX3_countMissed 0 = .ok (.iconst 0, 1) := by decide +kernel
theorem dX3_countMissed_1 : decode cX3_countMissed 1 = .ok (.istore_n 1, 1) := by decide +kernel
theorem dX3_countMissed_2 : decode cX3_countMissed 2 = .ok (.iconst 0, 1) := by decide +kernel
theorem dX3_countMissed_3 : decode cX3_countMissed 3 = .ok (.istore_n 2, 1) := by decide +kernel
theorem dX3_countMissed_4 : decode cX3_countMissed 4 = .ok (.iload_n 2, 1) := by decide +kernel
theorem dX3_countMissed_5 : decode cX3_countMissed 5 = .ok (.aload_n 0, 1) := by decide +kernel
theorem dX3_countMissed_6 : decode cX3_countMissed 6 = .ok (.getfield 19, 3) := by decide +kernel
theorem dX3_countMissed_9 : decode cX3_countMissed 9 = .ok (.getfield 118, 3) := by decide +kernel
theorem dX3_countMissed_12 : decode cX3_countMissed 12 = .ok (.if_icmp .ge 35, 3) := by decide +kernel
theorem dX3_countMissed_15 : decode cX3_countMissed 15 = .ok (.iload_n 1, 1) := by decide +kernel
theorem dX3_countMissed_16 : decode cX3_countMissed 16 = .ok (.aload_n 0, 1) := by decide +kernel
theorem dX3_countMissed_17 : decode cX3_countMissed 17 = .ok (.getfield 19, 3) := by decide +kernel
theorem dX3_countMissed_20 : decode cX3_countMissed 20 = .ok (.getfield 121, 3) := by decide +kernel
theorem dX3_countMissed_23 : decode cX3_countMissed 23 = .ok (.aload_n 0, 1) := by decide +kernel
theorem dX3_countMissed_24 : decode cX3_countMissed 24 = .ok (.getfield 26, 3) := by decide +kernel
theorem dX3_countMissed_27 : decode cX3_countMissed 27 = .ok (.iload_n 2, 1) := by decide +kernel
theorem dX3_countMissed_28 : decode cX3_countMissed 28 = .ok (.aload_n 0, 1) := by decide +kernel
theorem dX3_countMissed_29 : decode cX3_countMissed 29 = .ok (.getfield 26, 3) := by decide +kernel
theorem dX3_countMissed_32 : decode cX3_countMissed 32 = .ok (.getfield 78, 3) := by decide +kernel
theorem dX3_countMissed_35 : decode cX3_countMissed 35 = .ok (.invokevirtual 124, 3) := by decide +kernel
theorem dX3_countMissed_38 : decode cX3_countMissed 38 = .ok (.isub, 1) := by decide +kernel
theorem dX3_countMissed_39 : decode cX3_countMissed 39 = .ok (.iadd, 1) := by decide +kernel
theorem dX3_countMissed_40 : decode cX3_countMissed 40 = .ok (.istore_n 1, 1) := by decide +kernel
theorem dX3_countMissed_41 : decode cX3_countMissed 41 = .ok (.iinc 2 1, 3) := by decide +kernel
theorem dX3_countMissed_44 : decode cX3_countMissed 44 = .ok (.goto (-40), 3) := by decide +kernel
theorem dX3_countMissed_47 : decode cX3_countMissed 47 = .ok (.iload_n 1, 1) := by decide +kernel
theorem dX3_countMissed_48 : decode cX3_countMissed 48 = .ok (.ireturn, 1) := by decide +kernel
theorem dX3_worstPlace_0 : decode cX3_worstPlace 0 = .ok (.iconst 0, 1) := by decide +kernel
theorem dX3_worstPlace_1 : decode cX3_worstPlace 1 = .ok (.istore_n 1, 1) := by decide +kernel
theorem dX3_worstPlace_2 : decode cX3_worstPlace 2 = .ok (.iconst 1, 1) := by decide +kernel
theorem dX3_worstPlace_3 : decode cX3_worstPlace 3 = .ok (.istore_n 2, 1) := by decide +kernel
theorem dX3_worstPlace_4 : decode cX3_worstPlace 4 = .ok (.aload_n 0, 1) := by decide +kernel
theorem dX3_worstPlace_5 : decode cX3_worstPlace 5 = .ok (.iconst 0, 1) := by decide +kernel
theorem dX3_worstPlace_6 : decode cX3_worstPlace 6 = .ok (.iconst 1, 1) := by decide +kernel
theorem dX3_worstPlace_7 : decode cX3_worstPlace 7 = .ok (.invokevirtual 104, 3) := by decide +kernel
theorem dX3_worstPlace_10 : decode cX3_worstPlace 10 = .ok (.istore_n 3, 1) := by decide +kernel
theorem dX3_worstPlace_11 : decode cX3_worstPlace 11 = .ok (.iconst 0, 1) := by decide +kernel
theorem dX3_worstPlace_12 : decode cX3_worstPlace 12 = .ok (.istore 4, 2) := by decide +kernel
theorem dX3_worstPlace_14 : decode cX3_worstPlace 14 = .ok (.iload 4, 2) := by decide +kernel
theorem dX3_worstPlace_16 : decode cX3_worstPlace 16 = .ok (.aload_n 0, 1) := by decide +kernel
theorem dX3_worstPlace_17 : decode cX3_worstPlace 17 = .ok (.getfield 19, 3) := by decide +kernel
theorem dX3_worstPlace_20 : decode cX3_worstPlace 20 = .ok (.getfield 118, 3) := by decide +kernel
theorem dX3_worstPlace_23 : decode cX3_worstPlace 23 = .ok (.if_icmp .ge 60, 3) := by decide +kernel
theorem dX3_worstPlace_26 : decode cX3_worstPlace 26 = .ok (.iconst 1, 1) := by decide +kernel
theorem dX3_worstPlace_27 : decode cX3_worstPlace 27 = .ok (.istore 5, 2) := by decide +kernel
theorem dX3_worstPlace_29 : decode cX3_worstPlace 29 = .ok (.iload 5, 2) := by decide +kernel
theorem dX3_worstPlace_31 : decode cX3_worstPlace 31 = .ok (.aload_n 0, 1) := by decide +kernel
theorem dX3_worstPlace_32 : decode cX3_worstPlace 32 = .ok (.getfield 19, 3) := by decide +kernel
theorem dX3_worstPlace_35 : decode cX3_worstPlace 35 = .ok (.getfield 121, 3) := by decide +kernel
theorem dX3_worstPlace_38 : decode cX3_worstPlace 38 = .ok (.if_icmp .gt 39, 3) := by decide +kernel
theorem dX3_worstPlace_41 : decode cX3_worstPlace 41 = .ok (.aload_n 0, 1) := by decide +kernel
theorem dX3_worstPlace_42 : decode cX3_worstPlace 42 = .ok (.iload 4, 2) := by decide +kernel
theorem dX3_worstPlace_44 : decode cX3_worstPlace 44 = .ok (.iload 5, 2) := by decide +kernel
theorem dX3_worstPlace_46 : decode cX3_worstPlace 46 = .ok (.invokevirtual 104, 3) := by decide +kernel
theorem dX3_worstPlace_49 : decode cX3_worstPlace 49 = .ok (.istore 6, 2) := by decide +kernel
theorem dX3_worstPlace_51 : decode cX3_worstPlace 51 = .ok (.iload 6, 2) := by decide +kernel
theorem dX3_worstPlace_53 : decode cX3_worstPlace 53 = .ok (.iload_n 2, 1) := by decide +kernel
theorem dX3_worstPlace_54 : decode cX3_worstPlace 54 = .ok (.imul, 1) := by decide +kernel
theorem dX3_worstPlace_55 : decode cX3_worstPlace 55 = .ok (.iload_n 3, 1) := by decide +kernel
theorem dX3_worstPlace_56 : decode cX3_worstPlace 56 = .ok (.iload 5, 2) := by decide +kernel
theorem dX3_worstPlace_58 : decode cX3_worstPlace 58 = .ok (.imul, 1) := by decide +kernel
theorem dX3_worstPlace_59 : decode cX3_worstPlace 59 = .ok (.if_icmp .le 12, 3) := by decide +kernel
theorem dX3_worstPlace_62 : decode cX3_worstPlace 62 = .ok (.iload 4, 2) := by decide +kernel
theorem dX3_worstPlace_64 : decode cX3_worstPlace 64 = .ok (.istore_n 1, 1) := by decide +kernel
theorem dX3_worstPlace_65 : decode cX3_worstPlace 65 = .ok (.iload 5, 2) := by decide +kernel
theorem dX3_worstPlace_67 : decode cX3_worstPlace 67 = .ok (.istore_n 2, 1) := by decide +kernel
theorem dX3_worstPlace_68 : decode cX3_worstPlace 68 = .ok (.iload 6, 2) := by decide +kernel
theorem dX3_worstPlace_70 : decode cX3_worstPlace 70 = .ok (.istore_n 3, 1) := by decide +kernel
theorem dX3_worstPlace_71 : decode cX3_worstPlace 71 = .ok (.iinc 5 1, 3) := by decide +kernel
theorem dX3_worstPlace_74 : decode cX3_worstPlace 74 = .ok (.goto (-45), 3) := by decide +kernel
theorem dX3_worstPlace_77 : decode cX3_worstPlace 77 = .ok (.iinc 4 1, 3) := by decide +kernel
theorem dX3_worstPlace_80 : decode cX3_worstPlace 80 = .ok (.goto (-66), 3) := by decide +kernel
theorem dX3_worstPlace_83 : decode cX3_worstPlace 83 = .ok (.bipush 10, 2) := by decide +kernel
theorem dX3_worstPlace_85 : decode cX3_worstPlace 85 = .ok (.iload_n 1, 1) := by decide +kernel
theorem dX3_worstPlace_86 : decode cX3_worstPlace 86 = .ok (.imul, 1) := by decide +kernel
theorem dX3_worstPlace_87 : decode cX3_worstPlace 87 = .ok (.iload_n 2, 1) := by decide +kernel
theorem dX3_worstPlace_88 : decode cX3_worstPlace 88 = .ok (.iadd, 1) := by decide +kernel
theorem dX3_worstPlace_89 : decode cX3_worstPlace 89 = .ok (.ireturn, 1) := by decide +kernel
theorem dX3_tripThatMeets_0 : decode cX3_tripThatMeets 0 = .ok (.aload_n 0, 1) := by decide +kernel
theorem dX3_tripThatMeets_1 : decode cX3_tripThatMeets 1 = .ok (.getfield 26, 3) := by decide +kernel
theorem dX3_tripThatMeets_4 : decode cX3_tripThatMeets 4 = .ok (.iload_n 1, 1) := by decide +kernel
theorem dX3_tripThatMeets_5 : decode cX3_tripThatMeets 5 = .ok (.iload_n 2, 1) := by decide +kernel
theorem dX3_tripThatMeets_6 : decode cX3_tripThatMeets 6 = .ok (.iconst 0, 1) := by decide +kernel
theorem dX3_tripThatMeets_7 : decode cX3_tripThatMeets 7 = .ok (.invokevirtual 158, 3) := by decide +kernel
theorem dX3_tripThatMeets_10 : decode cX3_tripThatMeets 10 = .ok (.istore_n 3, 1) := by decide +kernel
theorem dX3_tripThatMeets_11 : decode cX3_tripThatMeets 11 = .ok (.aload_n 0, 1) := by decide +kernel
theorem dX3_tripThatMeets_12 : decode cX3_tripThatMeets 12 = .ok (.getfield 26, 3) := by decide +kernel
theorem dX3_tripThatMeets_15 : decode cX3_tripThatMeets 15 = .ok (.iload_n 1, 1) := by decide +kernel
theorem dX3_tripThatMeets_16 : decode cX3_tripThatMeets 16 = .ok (.iload_n 2, 1) := by decide +kernel
theorem dX3_tripThatMeets_17 : decode cX3_tripThatMeets 17 = .ok (.iconst 1, 1) := by decide +kernel
theorem dX3_tripThatMeets_18 : decode cX3_tripThatMeets 18 = .ok (.invokevirtual 158, 3) := by decide +kernel
theorem dX3_tripThatMeets_21 : decode cX3_tripThatMeets 21 = .ok (.istore 4, 2) := by decide +kernel
theorem dX3_tripThatMeets_23 : decode cX3_tripThatMeets 23 = .ok (.iload_n 3, 1) := by decide +kernel
theorem dX3_tripThatMeets_24 : decode cX3_tripThatMeets 24 = .ok (.ifCond .ge 6, 3) := by decide +kernel
theorem dX3_tripThatMeets_27 : decode cX3_tripThatMeets 27 = .ok (.iload 4, 2) := by decide +kernel
theorem dX3_tripThatMeets_29 : decode cX3_tripThatMeets 29 = .ok (.ireturn, 1) := by decide +kernel
theorem dX3_tripThatMeets_30 : decode cX3_tripThatMeets 30 = .ok (.iload 4, 2) := by decide +kernel
theorem dX3_tripThatMeets_32 : decode cX3_tripThatMeets 32 = .ok (.ifCond .ge 5, 3) := by decide +kernel
theorem dX3_tripThatMeets_35 : decode cX3_tripThatMeets 35 = .ok (.iload_n 3, 1) := by decide +kernel
theorem dX3_tripThatMeets_36 : decode cX3_tripThatMeets 36 = .ok (.ireturn, 1) := by decide +kernel
theorem dX3_tripThatMeets_37 : decode cX3_tripThatMeets 37 = .ok (.aload_n 0, 1) := by decide +kernel
theorem dX3_tripThatMeets_38 : decode cX3_tripThatMeets 38 = .ok (.getfield 26, 3) := by decide +kernel
theorem dX3_tripThatMeets_41 : decode cX3_tripThatMeets 41 = .ok (.iload 4, 2) := by decide +kernel
theorem dX3_tripThatMeets_43 : decode cX3_tripThatMeets 43 = .ok (.iconst 1, 1) := by decide +kernel
theorem dX3_tripThatMeets_44 : decode cX3_tripThatMeets 44 = .ok (.invokevirtual 94, 3) := by decide +kernel
theorem dX3_tripThatMeets_47 : decode cX3_tripThatMeets 47 = .ok (.aload_n 0, 1) := by decide +kernel
theorem dX3_tripThatMeets_48 : decode cX3_tripThatMeets 48 = .ok (.getfield 26, 3) := by decide +kernel
theorem dX3_tripThatMeets_51 : decode cX3_tripThatMeets 51 = .ok (.iload_n 3, 1) := by decide +kernel
theorem dX3_tripThatMeets_52 : decode cX3_tripThatMeets 52 = .ok (.iconst 0, 1) := by decide +kernel
theorem dX3_tripThatMeets_53 : decode cX3_tripThatMeets 53 = .ok (.invokevirtual 94, 3) := by decide +kernel
theorem dX3_tripThatMeets_56 : decode cX3_tripThatMeets 56 = .ok (.if_icmp .ge 8, 3) := by decide +kernel
theorem dX3_tripThatMeets_59 : decode cX3_tripThatMeets 59 = .ok (.iload 4, 2) := by decide +kernel
theorem dX3_tripThatMeets_61 : decode cX3_tripThatMeets 61 = .ok (.goto 4, 3) := by decide +kernel
theorem dX3_tripThatMeets_64 : decode cX3_tripThatMeets 64 = .ok (.iload_n 3, 1) := by decide +kernel
theorem dX3_tripThatMeets_65 : decode cX3_tripThatMeets 65 = .ok (.ireturn, 1) := by decide +kernel
theorem dX3_placeOf_0 : decode cX3_placeOf 0 = .ok (.aload_n 0, 1) := by decide +kernel
theorem dX3_placeOf_1 : decode cX3_placeOf 1 = .ok (.iload_n 1, 1) := by decide +kernel
theorem dX3_placeOf_2 : decode cX3_placeOf 2 = .ok (.invokevirtual 84, 3) := by decide +kernel
theorem dX3_placeOf_5 : decode cX3_placeOf 5 = .ok (.ifCond .eq 20, 3) := by decide +kernel
theorem dX3_placeOf_8 : decode cX3_placeOf 8 = .ok (.bipush 10, 2) := by decide +kernel
theorem dX3_placeOf_10 : decode cX3_placeOf 10 = .ok (.aload_n 0, 1) := by decide +kernel
theorem dX3_placeOf_11 : decode cX3_placeOf 11 = .ok (.iload_n 1, 1) := by decide +kernel
theorem dX3_placeOf_12 : decode cX3_placeOf 12 = .ok (.invokevirtual 87, 3) := by decide +kernel
theorem dX3_placeOf_15 : decode cX3_placeOf 15 = .ok (.imul, 1) := by decide +kernel
theorem dX3_placeOf_16 : decode cX3_placeOf 16 = .ok (.aload_n 0, 1) := by decide +kernel
theorem dX3_placeOf_17 : decode cX3_placeOf 17 = .ok (.iload_n 1, 1) := by decide +kernel
theorem dX3_placeOf_18 : decode cX3_placeOf 18 = .ok (.invokevirtual 91, 3) := by decide +kernel
theorem dX3_placeOf_21 : decode cX3_placeOf 21 = .ok (.iadd, 1) := by decide +kernel
theorem dX3_placeOf_22 : decode cX3_placeOf 22 = .ok (.goto 5, 3) := by decide +kernel
theorem dX3_placeOf_25 : decode cX3_placeOf 25 = .ok (.bipush (-6), 2) := by decide +kernel
theorem dX3_placeOf_27 : decode cX3_placeOf 27 = .ok (.ireturn, 1) := by decide +kernel
theorem dX3_findMean_0 : decode cX3_findMean 0 = .ok (.aload_n 0, 1) := by decide +kernel
theorem dX3_findMean_1 : decode cX3_findMean 1 = .ok (.getfield 43, 3) := by decide +kernel
theorem dX3_findMean_4 : decode cX3_findMean 4 = .ok (.ifCond .ne 27, 3) := by decide +kernel
theorem dX3_findMean_7 : decode cX3_findMean 7 = .ok (.aload_n 0, 1) := by decide +kernel
theorem dX3_findMean_8 : decode cX3_findMean 8 = .ok (.aload_n 0, 1) := by decide +kernel
theorem dX3_findMean_9 : decode cX3_findMean 9 = .ok (.getfield 33, 3) := by decide +kernel
theorem dX3_findMean_12 : decode cX3_findMean 12 = .ok (.aload_n 0, 1) := by decide +kernel
theorem dX3_findMean_13 : decode cX3_findMean 13 = .ok (.getfield 19, 3) := by decide +kernel
theorem dX3_findMean_16 : decode cX3_findMean 16 = .ok (.aload_n 0, 1) := by decide +kernel
theorem dX3_findMean_17 : decode cX3_findMean 17 = .ok (.getfield 37, 3) := by decide +kernel
theorem dX3_findMean_20 : decode cX3_findMean 20 = .ok (.invokevirtual 161, 3) := by decide +kernel
theorem dX3_findMean_23 : decode cX3_findMean 23 = .ok (.putfield 50, 3) := by decide +kernel
theorem dX3_findMean_26 : decode cX3_findMean 26 = .ok (.aload_n 0, 1) := by decide +kernel
theorem dX3_findMean_27 : decode cX3_findMean 27 = .ok (.iconst 1, 1) := by decide +kernel
theorem dX3_findMean_28 : decode cX3_findMean 28 = .ok (.putfield 43, 3) := by decide +kernel
theorem dX3_findMean_31 : decode cX3_findMean 31 = .ok (.return_, 1) := by decide +kernel
theorem dX3_findWorst_0 : decode cX3_findWorst 0 = .ok (.aload_n 0, 1) := by decide +kernel
theorem dX3_findWorst_1 : decode cX3_findWorst 1 = .ok (.getfield 47, 3) := by decide +kernel
theorem dX3_findWorst_4 : decode cX3_findWorst 4 = .ok (.ifCond .ne 27, 3) := by decide +kernel
theorem dX3_findWorst_7 : decode cX3_findWorst 7 = .ok (.aload_n 0, 1) := by decide +kernel
theorem dX3_findWorst_8 : decode cX3_findWorst 8 = .ok (.aload_n 0, 1) := by decide +kernel
theorem dX3_findWorst_9 : decode cX3_findWorst 9 = .ok (.getfield 33, 3) := by decide +kernel
theorem dX3_findWorst_12 : decode cX3_findWorst 12 = .ok (.aload_n 0, 1) := by decide +kernel
theorem dX3_findWorst_13 : decode cX3_findWorst 13 = .ok (.getfield 19, 3) := by decide +kernel
theorem dX3_findWorst_16 : decode cX3_findWorst 16 = .ok (.aload_n 0, 1) := by decide +kernel
theorem dX3_findWorst_17 : decode cX3_findWorst 17 = .ok (.getfield 40, 3) := by decide +kernel
theorem dX3_findWorst_20 : decode cX3_findWorst 20 = .ok (.invokevirtual 165, 3) := by decide +kernel
theorem dX3_findWorst_23 : decode cX3_findWorst 23 = .ok (.putfield 53, 3) := by decide +kernel
theorem dX3_findWorst_26 : decode cX3_findWorst 26 = .ok (.aload_n 0, 1) := by decide +kernel
theorem dX3_findWorst_27 : decode cX3_findWorst 27 = .ok (.iconst 1, 1) := by decide +kernel
theorem dX3_findWorst_28 : decode cX3_findWorst 28 = .ok (.putfield 47, 3) := by decide +kernel
theorem dX3_findWorst_31 : decode cX3_findWorst 31 = .ok (.return_, 1) := by decide +kernel
theorem dX3_worstUpper_0 : decode cX3_worstUpper 0 = .ok (.aload_n 0, 1) := by decide +kernel
theorem dX3_worstUpper_1 : decode cX3_worstUpper 1 = .ok (.getfield 9, 3) := by decide +kernel
theorem dX3_worstUpper_4 : decode cX3_worstUpper 4 = .ok (.sipush 840, 3) := by decide +kernel
theorem dX3_worstUpper_7 : decode cX3_worstUpper 7 = .ok (.imul, 1) := by decide +kernel
theorem dX3_worstUpper_8 : decode cX3_worstUpper 8 = .ok (.aload_n 0, 1) := by decide +kernel
theorem dX3_worstUpper_9 : decode cX3_worstUpper 9 = .ok (.aload_n 0, 1) := by decide +kernel
theorem dX3_worstUpper_10 : decode cX3_worstUpper 10 = .ok (.getfield 53, 3) := by decide +kernel
theorem dX3_worstUpper_13 : decode cX3_worstUpper 13 = .ok (.invokevirtual 97, 3) := by decide +kernel
theorem dX3_worstUpper_16 : decode cX3_worstUpper 16 = .ok (.iadd, 1) := by decide +kernel
theorem dX3_worstUpper_17 : decode cX3_worstUpper 17 = .ok (.ireturn, 1) := by decide +kernel
theorem dX3_lowest_0 : decode cX3_lowest 0 = .ok (.iload_n 0, 1) := by decide +kernel
theorem dX3_lowest_1 : decode cX3_lowest 1 = .ok (.iload_n 1, 1) := by decide +kernel
theorem dX3_lowest_2 : decode cX3_lowest 2 = .ok (.invokestatic 168, 3) := by decide +kernel
theorem dX3_lowest_5 : decode cX3_lowest 5 = .ok (.istore_n 3, 1) := by decide +kernel
theorem dX3_lowest_6 : decode cX3_lowest 6 = .ok (.iload_n 3, 1) := by decide +kernel
theorem dX3_lowest_7 : decode cX3_lowest 7 = .ok (.iconst 1, 1) := by decide +kernel
theorem dX3_lowest_8 : decode cX3_lowest 8 = .ok (.if_icmp .ge 13, 3) := by decide +kernel
theorem dX3_lowest_11 : decode cX3_lowest 11 = .ok (.iload_n 2, 1) := by decide +kernel
theorem dX3_lowest_12 : decode cX3_lowest 12 = .ok (.ifCond .ne 7, 3) := by decide +kernel
theorem dX3_lowest_15 : decode cX3_lowest 15 = .ok (.iload_n 0, 1) := by decide +kernel
theorem dX3_lowest_16 : decode cX3_lowest 16 = .ok (.goto 4, 3) := by decide +kernel
theorem dX3_lowest_19 : decode cX3_lowest 19 = .ok (.iload_n 1, 1) := by decide +kernel
theorem dX3_lowest_20 : decode cX3_lowest 20 = .ok (.ireturn, 1) := by decide +kernel
theorem dX3_lowest_21 : decode cX3_lowest 21 = .ok (.iload_n 2, 1) := by decide +kernel
theorem dX3_lowest_22 : decode cX3_lowest 22 = .ok (.ifCond .ne 9, 3) := by decide +kernel
theorem dX3_lowest_25 : decode cX3_lowest 25 = .ok (.iload_n 0, 1) := by decide +kernel
theorem dX3_lowest_26 : decode cX3_lowest 26 = .ok (.iload_n 3, 1) := by decide +kernel
theorem dX3_lowest_27 : decode cX3_lowest 27 = .ok (.idiv, 1) := by decide +kernel
theorem dX3_lowest_28 : decode cX3_lowest 28 = .ok (.goto 6, 3) := by decide +kernel
theorem dX3_lowest_31 : decode cX3_lowest 31 = .ok (.iload_n 1, 1) := by decide +kernel
theorem dX3_lowest_32 : decode cX3_lowest 32 = .ok (.iload_n 3, 1) := by decide +kernel
theorem dX3_lowest_33 : decode cX3_lowest 33 = .ok (.idiv, 1) := by decide +kernel
theorem dX3_lowest_34 : decode cX3_lowest 34 = .ok (.ireturn, 1) := by decide +kernel
theorem dX3_commonDivisor_0 : decode cX3_commonDivisor 0 = .ok (.iload_n 0, 1) := by decide +kernel
theorem dX3_commonDivisor_1 : decode cX3_commonDivisor 1 = .ok (.istore_n 2, 1) := by decide +kernel
theorem dX3_commonDivisor_2 : decode cX3_commonDivisor 2 = .ok (.iload_n 1, 1) := by decide +kernel
theorem dX3_commonDivisor_3 : decode cX3_commonDivisor 3 = .ok (.istore_n 3, 1) := by decide +kernel
theorem dX3_commonDivisor_4 : decode cX3_commonDivisor 4 = .ok (.iconst 0, 1) := by decide +kernel
theorem dX3_commonDivisor_5 : decode cX3_commonDivisor 5 = .ok (.istore 4, 2) := by decide +kernel
theorem dX3_commonDivisor_7 : decode cX3_commonDivisor 7 = .ok (.iload 4, 2) := by decide +kernel
theorem dX3_commonDivisor_9 : decode cX3_commonDivisor 9 = .ok (.bipush 64, 2) := by decide +kernel
theorem dX3_commonDivisor_11 : decode cX3_commonDivisor 11 = .ok (.if_icmp .ge 23, 3) := by decide +kernel
theorem dX3_commonDivisor_14 : decode cX3_commonDivisor 14 = .ok (.iload_n 3, 1) := by decide +kernel
theorem dX3_commonDivisor_15 : decode cX3_commonDivisor 15 = .ok (.ifCond .le 19, 3) := by decide +kernel
theorem dX3_commonDivisor_18 : decode cX3_commonDivisor 18 = .ok (.iload_n 2, 1) := by decide +kernel
theorem dX3_commonDivisor_19 : decode cX3_commonDivisor 19 = .ok (.iload_n 3, 1) := by decide +kernel
theorem dX3_commonDivisor_20 : decode cX3_commonDivisor 20 = .ok (.irem, 1) := by decide +kernel
theorem dX3_commonDivisor_21 : decode cX3_commonDivisor 21 = .ok (.istore 5, 2) := by decide +kernel
theorem dX3_commonDivisor_23 : decode cX3_commonDivisor 23 = .ok (.iload_n 3, 1) := by decide +kernel
theorem dX3_commonDivisor_24 : decode cX3_commonDivisor 24 = .ok (.istore_n 2, 1) := by decide +kernel
theorem dX3_commonDivisor_25 : decode cX3_commonDivisor 25 = .ok (.iload 5, 2) := by decide +kernel
theorem dX3_commonDivisor_27 : decode cX3_commonDivisor 27 = .ok (.istore_n 3, 1) := by decide +kernel
theorem dX3_commonDivisor_28 : decode cX3_commonDivisor 28 = .ok (.iinc 4 1, 3) := by decide +kernel
theorem dX3_commonDivisor_31 : decode cX3_commonDivisor 31 = .ok (.goto (-24), 3) := by decide +kernel
theorem dX3_commonDivisor_34 : decode cX3_commonDivisor 34 = .ok (.iload_n 2, 1) := by decide +kernel
theorem dX3_commonDivisor_35 : decode cX3_commonDivisor 35 = .ok (.ireturn, 1) := by decide +kernel
theorem dX3_at_0 : decode cX3_at 0 = .ok (.iload_n 1, 1) := by decide +kernel
theorem dX3_at_1 : decode cX3_at 1 = .ok (.ifCond .lt 15, 3) := by decide +kernel
theorem dX3_at_4 : decode cX3_at 4 = .ok (.iload_n 1, 1) := by decide +kernel
theorem dX3_at_5 : decode cX3_at 5 = .ok (.aload_n 0, 1) := by decide +kernel
theorem dX3_at_6 : decode cX3_at 6 = .ok (.arraylength, 1) := by decide +kernel
theorem dX3_at_7 : decode cX3_at 7 = .ok (.if_icmp .ge 9, 3) := by decide +kernel
theorem dX3_at_10 : decode cX3_at 10 = .ok (.aload_n 0, 1) := by decide +kernel
theorem dX3_at_11 : decode cX3_at 11 = .ok (.iload_n 1, 1) := by decide +kernel
theorem dX3_at_12 : decode cX3_at 12 = .ok (.iaload, 1) := by decide +kernel
theorem dX3_at_13 : decode cX3_at 13 = .ok (.goto 4, 3) := by decide +kernel
theorem dX3_at_16 : decode cX3_at 16 = .ok (.iconst 0, 1) := by decide +kernel
theorem dX3_at_17 : decode cX3_at 17 = .ok (.ireturn, 1) := by decide +kernel
theorem dX3_put_0 : decode cX3_put 0 = .ok (.iload_n 1, 1) := by decide +kernel
theorem dX3_put_1 : decode cX3_put 1 = .ok (.ifCond .lt 13, 3) := by decide +kernel
theorem dX3_put_4 : decode cX3_put 4 = .ok (.iload_n 1, 1) := by decide +kernel
theorem dX3_put_5 : decode cX3_put 5 = .ok (.aload_n 0, 1) := by decide +kernel
theorem dX3_put_6 : decode cX3_put 6 = .ok (.arraylength, 1) := by decide +kernel
theorem dX3_put_7 : decode cX3_put 7 = .ok (.if_icmp .ge 7, 3) := by decide +kernel
theorem dX3_put_10 : decode cX3_put 10 = .ok (.aload_n 0, 1) := by decide +kernel
theorem dX3_put_11 : decode cX3_put 11 = .ok (.iload_n 1, 1) := by decide +kernel
theorem dX3_put_12 : decode cX3_put 12 = .ok (.iload_n 2, 1) := by decide +kernel
theorem dX3_put_13 : decode cX3_put 13 = .ok (.iastore, 1) := by decide +kernel
theorem dX3_put_14 : decode cX3_put 14 = .ok (.return_, 1) := by decide +kernel
theorem dX3_putAll_0 : decode cX3_putAll 0 = .ok (.iconst 0, 1) := by decide +kernel
theorem dX3_putAll_1 : decode cX3_putAll 1 = .ok (.istore_n 2, 1) := by decide +kernel
theorem dX3_putAll_2 : decode cX3_putAll 2 = .ok (.iload_n 2, 1) := by decide +kernel
theorem dX3_putAll_3 : decode cX3_putAll 3 = .ok (.aload_n 0, 1) := by decide +kernel
theorem dX3_putAll_4 : decode cX3_putAll 4 = .ok (.arraylength, 1) := by decide +kernel
theorem dX3_putAll_5 : decode cX3_putAll 5 = .ok (.if_icmp .ge 13, 3) := by decide +kernel
theorem dX3_putAll_8 : decode cX3_putAll 8 = .ok (.aload_n 0, 1) := by decide +kernel
theorem dX3_putAll_9 : decode cX3_putAll 9 = .ok (.iload_n 2, 1) := by decide +kernel
theorem dX3_putAll_10 : decode cX3_putAll 10 = .ok (.iload_n 1, 1) := by decide +kernel
theorem dX3_putAll_11 : decode cX3_putAll 11 = .ok (.iastore, 1) := by decide +kernel
theorem dX3_putAll_12 : decode cX3_putAll 12 = .ok (.iinc 2 1, 3) := by decide +kernel
theorem dX3_putAll_15 : decode cX3_putAll 15 = .ok (.goto (-13), 3) := by decide +kernel
theorem dX3_putAll_18 : decode cX3_putAll 18 = .ok (.return_, 1) := by decide +kernel
