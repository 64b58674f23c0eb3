theorem dX0_init_0 : decode cX0_init 0 = .ok (.aload_n 0, 1) := by decide +kernel
theorem dX0_init_1 : decode cX0_init 1 = .ok (.invokespecial 3, 3) := by decide +kernel
theorem dX0_init_4 : decode cX0_init 4 = .ok (.return_, 1) := by decide +kernel
theorem dX0_start_0 : decode cX0_start 0 = .ok (.aload_n 0, 1) := by decide +kernel
theorem dX0_start_1 : decode cX0_start 1 = .ok (.iload_n 1, 1) := by decide +kernel
theorem dX0_start_2 : decode cX0_start 2 = .ok (.putfield 9, 3) := by decide +kernel
theorem dX0_start_5 : decode cX0_start 5 = .ok (.aload_n 0, 1) := by decide +kernel
theorem dX0_start_6 : decode cX0_start 6 = .ok (.iload_n 2, 1) := by decide +kernel
theorem dX0_start_7 : decode cX0_start 7 = .ok (.putfield 15, 3) := by decide +kernel
theorem dX0_start_10 : decode cX0_start 10 = .ok (.aload_n 0, 1) := by decide +kernel
theorem dX0_start_11 : decode cX0_start 11 = .ok (.iload_n 3, 1) := by decide +kernel
theorem dX0_start_12 : decode cX0_start 12 = .ok (.putfield 19, 3) := by decide +kernel
theorem dX0_start_15 : decode cX0_start 15 = .ok (.aload_n 0, 1) := by decide +kernel
theorem dX0_start_16 : decode cX0_start 16 = .ok (.iconst (-1), 1) := by decide +kernel
theorem dX0_start_17 : decode cX0_start 17 = .ok (.putfield 22, 3) := by decide +kernel
theorem dX0_start_20 : decode cX0_start 20 = .ok (.aload_n 0, 1) := by decide +kernel
theorem dX0_start_21 : decode cX0_start 21 = .ok (.iconst (-1), 1) := by decide +kernel
theorem dX0_start_22 : decode cX0_start 22 = .ok (.putfield 25, 3) := by decide +kernel
theorem dX0_start_25 : decode cX0_start 25 = .ok (.aload_n 0, 1) := by decide +kernel
theorem dX0_start_26 : decode cX0_start 26 = .ok (.iconst (-1), 1) := by decide +kernel
theorem dX0_start_27 : decode cX0_start 27 = .ok (.putfield 28, 3) := by decide +kernel
theorem dX0_start_30 : decode cX0_start 30 = .ok (.return_, 1) := by decide +kernel
theorem dX0_isAnsweredAhead_0 : decode cX0_isAnsweredAhead 0 = .ok (.aload_n 0, 1) := by decide +kernel
theorem dX0_isAnsweredAhead_1 : decode cX0_isAnsweredAhead 1 = .ok (.getfield 22, 3) := by decide +kernel
theorem dX0_isAnsweredAhead_4 : decode cX0_isAnsweredAhead 4 = .ok (.iconst (-1), 1) := by decide +kernel
theorem dX0_isAnsweredAhead_5 : decode cX0_isAnsweredAhead 5 = .ok (.if_icmp .eq 15, 3) := by decide +kernel
theorem dX0_isAnsweredAhead_8 : decode cX0_isAnsweredAhead 8 = .ok (.aload_n 0, 1) := by decide +kernel
theorem dX0_isAnsweredAhead_9 : decode cX0_isAnsweredAhead 9 = .ok (.getfield 22, 3) := by decide +kernel
theorem dX0_isAnsweredAhead_12 : decode cX0_isAnsweredAhead 12 = .ok (.iload_n 1, 1) := by decide +kernel
theorem dX0_isAnsweredAhead_13 : decode cX0_isAnsweredAhead 13 = .ok (.if_icmp .ge 7, 3) := by decide +kernel
theorem dX0_isAnsweredAhead_16 : decode cX0_isAnsweredAhead 16 = .ok (.iconst 1, 1) := by decide +kernel
theorem dX0_isAnsweredAhead_17 : decode cX0_isAnsweredAhead 17 = .ok (.goto 4, 3) := by decide +kernel
theorem dX0_isAnsweredAhead_20 : decode cX0_isAnsweredAhead 20 = .ok (.iconst 0, 1) := by decide +kernel
theorem dX0_isAnsweredAhead_21 : decode cX0_isAnsweredAhead 21 = .ok (.ireturn, 1) := by decide +kernel
theorem dX0_fitsBetween_0 : decode cX0_fitsBetween 0 = .ok (.aload_n 0, 1) := by decide +kernel
theorem dX0_fitsBetween_1 : decode cX0_fitsBetween 1 = .ok (.getfield 9, 3) := by decide +kernel
theorem dX0_fitsBetween_4 : decode cX0_fitsBetween 4 = .ok (.ifCond .eq 23, 3) := by decide +kernel
theorem dX0_fitsBetween_7 : decode cX0_fitsBetween 7 = .ok (.aload_n 0, 1) := by decide +kernel
theorem dX0_fitsBetween_8 : decode cX0_fitsBetween 8 = .ok (.getfield 19, 3) := by decide +kernel
theorem dX0_fitsBetween_11 : decode cX0_fitsBetween 11 = .ok (.iload_n 2, 1) := by decide +kernel
theorem dX0_fitsBetween_12 : decode cX0_fitsBetween 12 = .ok (.if_icmp .ge 15, 3) := by decide +kernel
theorem dX0_fitsBetween_15 : decode cX0_fitsBetween 15 = .ok (.aload_n 0, 1) := by decide +kernel
theorem dX0_fitsBetween_16 : decode cX0_fitsBetween 16 = .ok (.iload_n 1, 1) := by decide +kernel
theorem dX0_fitsBetween_17 : decode cX0_fitsBetween 17 = .ok (.invokevirtual 31, 3) := by decide +kernel
theorem dX0_fitsBetween_20 : decode cX0_fitsBetween 20 = .ok (.ifCond .ne 7, 3) := by decide +kernel
theorem dX0_fitsBetween_23 : decode cX0_fitsBetween 23 = .ok (.iconst 1, 1) := by decide +kernel
theorem dX0_fitsBetween_24 : decode cX0_fitsBetween 24 = .ok (.goto 4, 3) := by decide +kernel
theorem dX0_fitsBetween_27 : decode cX0_fitsBetween 27 = .ok (.iconst 0, 1) := by decide +kernel
theorem dX0_fitsBetween_28 : decode cX0_fitsBetween 28 = .ok (.ireturn, 1) := by decide +kernel
theorem dX1_init_0 : decode cX1_init 0 = .ok (.aload_n 0, 1) := by decide +kernel
theorem dX1_init_1 : decode cX1_init 1 = .ok (.invokespecial 3, 3) := by decide +kernel
theorem dX1_init_4 : decode cX1_init 4 = .ok (.aload_n 0, 1) := by decide +kernel
theorem dX1_init_5 : decode cX1_init 5 = .ok (.aload_n 1, 1) := by decide +kernel
theorem dX1_init_6 : decode cX1_init 6 = .ok (.putfield 9, 3) := by decide +kernel
theorem dX1_init_9 : decode cX1_init 9 = .ok (.aload_n 0, 1) := by decide +kernel
theorem dX1_init_10 : decode cX1_init 10 = .ok (.aload_n 2, 1) := by decide +kernel
theorem dX1_init_11 : decode cX1_init 11 = .ok (.putfield 15, 3) := by decide +kernel
theorem dX1_init_14 : decode cX1_init 14 = .ok (.return_, 1) := by decide +kernel
theorem dX1_letPropose_0 : decode cX1_letPropose 0 = .ok (.aload_n 1, 1) := by decide +kernel
theorem dX1_letPropose_1 : decode cX1_letPropose 1 = .ok (.getfield 19, 3) := by decide +kernel
theorem dX1_letPropose_4 : decode cX1_letPropose 4 = .ok (.iload_n 2, 1) := by decide +kernel
theorem dX1_letPropose_5 : decode cX1_letPropose 5 = .ok (.aaload, 1) := by decide +kernel
theorem dX1_letPropose_6 : decode cX1_letPropose 6 = .ok (.astore 4, 2) := by decide +kernel
theorem dX1_letPropose_8 : decode cX1_letPropose 8 = .ok (.aload 4, 2) := by decide +kernel
theorem dX1_letPropose_10 : decode cX1_letPropose 10 = .ok (.aload 4, 2) := by decide +kernel
theorem dX1_letPropose_12 : decode cX1_letPropose 12 = .ok (.aload_n 1, 1) := by decide +kernel
theorem dX1_letPropose_13 : decode cX1_letPropose 13 = .ok (.getfield 25, 3) := by decide +kernel
theorem dX1_letPropose_16 : decode cX1_letPropose 16 = .ok (.invokevirtual 29, 3) := by decide +kernel
theorem dX1_letPropose_19 : decode cX1_letPropose 19 = .ok (.iload_n 3, 1) := by decide +kernel
theorem dX1_letPropose_20 : decode cX1_letPropose 20 = .ok (.aload_n 1, 1) := by decide +kernel
theorem dX1_letPropose_21 : decode cX1_letPropose 21 = .ok (.getfield 25, 3) := by decide +kernel
theorem dX1_letPropose_24 : decode cX1_letPropose 24 = .ok (.invokevirtual 35, 3) := by decide +kernel
theorem dX1_letPropose_27 : decode cX1_letPropose 27 = .ok (.iconst 0, 1) := by decide +kernel
theorem dX1_letPropose_28 : decode cX1_letPropose 28 = .ok (.istore 5, 2) := by decide +kernel
theorem dX1_letPropose_30 : decode cX1_letPropose 30 = .ok (.iload 5, 2) := by decide +kernel
theorem dX1_letPropose_32 : decode cX1_letPropose 32 = .ok (.aload_n 0, 1) := by decide +kernel
theorem dX1_letPropose_33 : decode cX1_letPropose 33 = .ok (.getfield 15, 3) := by decide +kernel
theorem dX1_letPropose_36 : decode cX1_letPropose 36 = .ok (.getfield 39, 3) := by decide +kernel
theorem dX1_letPropose_39 : decode cX1_letPropose 39 = .ok (.if_icmp .ge 41, 3) := by decide +kernel
theorem dX1_letPropose_42 : decode cX1_letPropose 42 = .ok (.iload 5, 2) := by decide +kernel
theorem dX1_letPropose_44 : decode cX1_letPropose 44 = .ok (.aload_n 1, 1) := by decide +kernel
theorem dX1_letPropose_45 : decode cX1_letPropose 45 = .ok (.getfield 25, 3) := by decide +kernel
theorem dX1_letPropose_48 : decode cX1_letPropose 48 = .ok (.if_icmp .eq 26, 3) := by decide +kernel
theorem dX1_letPropose_51 : decode cX1_letPropose 51 = .ok (.aload_n 0, 1) := by decide +kernel
theorem dX1_letPropose_52 : decode cX1_letPropose 52 = .ok (.getfield 15, 3) := by decide +kernel
theorem dX1_letPropose_55 : decode cX1_letPropose 55 = .ok (.iconst 4, 1) := by decide +kernel
theorem dX1_letPropose_56 : decode cX1_letPropose 56 = .ok (.aload_n 1, 1) := by decide +kernel
theorem dX1_letPropose_57 : decode cX1_letPropose 57 = .ok (.getfield 25, 3) := by decide +kernel
theorem dX1_letPropose_60 : decode cX1_letPropose 60 = .ok (.iload 5, 2) := by decide +kernel
theorem dX1_letPropose_62 : decode cX1_letPropose 62 = .ok (.aload 4, 2) := by decide +kernel
theorem dX1_letPropose_64 : decode cX1_letPropose 64 = .ok (.getfield 44, 3) := by decide +kernel
theorem dX1_letPropose_67 : decode cX1_letPropose 67 = .ok (.invokevirtual 47, 3) := by decide +kernel
theorem dX1_letPropose_70 : decode cX1_letPropose 70 = .ok (.iload_n 2, 1) := by decide +kernel
theorem dX1_letPropose_71 : decode cX1_letPropose 71 = .ok (.putfield 51, 3) := by decide +kernel
theorem dX1_letPropose_74 : decode cX1_letPropose 74 = .ok (.iinc 5 1, 3) := by decide +kernel
theorem dX1_letPropose_77 : decode cX1_letPropose 77 = .ok (.goto (-47), 3) := by decide +kernel
theorem dX1_letPropose_80 : decode cX1_letPropose 80 = .ok (.aload 4, 2) := by decide +kernel
theorem dX1_letPropose_82 : decode cX1_letPropose 82 = .ok (.getfield 44, 3) := by decide +kernel
theorem dX1_letPropose_85 : decode cX1_letPropose 85 = .ok (.ireturn, 1) := by decide +kernel
theorem dX1_hear_0 : decode cX1_hear 0 = .ok (.aload_n 0, 1) := by decide +kernel
theorem dX1_hear_1 : decode cX1_hear 1 = .ok (.getfield 9, 3) := by decide +kernel
theorem dX1_hear_4 : decode cX1_hear 4 = .ok (.aload_n 1, 1) := by decide +kernel
theorem dX1_hear_5 : decode cX1_hear 5 = .ok (.getfield 56, 3) := by decide +kernel
theorem dX1_hear_8 : decode cX1_hear 8 = .ok (.aaload, 1) := by decide +kernel
theorem dX1_hear_9 : decode cX1_hear 9 = .ok (.astore_n 2, 1) := by decide +kernel
theorem dX1_hear_10 : decode cX1_hear 10 = .ok (.aload_n 2, 1) := by decide +kernel
theorem dX1_hear_11 : decode cX1_hear 11 = .ok (.getfield 19, 3) := by decide +kernel
theorem dX1_hear_14 : decode cX1_hear 14 = .ok (.aload_n 1, 1) := by decide +kernel
theorem dX1_hear_15 : decode cX1_hear 15 = .ok (.getfield 51, 3) := by decide +kernel
theorem dX1_hear_18 : decode cX1_hear 18 = .ok (.aaload, 1) := by decide +kernel
theorem dX1_hear_19 : decode cX1_hear 19 = .ok (.astore_n 3, 1) := by decide +kernel
theorem dX1_hear_20 : decode cX1_hear 20 = .ok (.aload_n 1, 1) := by decide +kernel
theorem dX1_hear_21 : decode cX1_hear 21 = .ok (.getfield 59, 3) := by decide +kernel
theorem dX1_hear_24 : decode cX1_hear 24 = .ok (.tableswitch 69 4 7 #[32, 41, 51, 60], 32) := by decide +kernel
theorem dX1_hear_56 : decode cX1_hear 56 = .ok (.aload_n 0, 1) := by decide +kernel
theorem dX1_hear_57 : decode cX1_hear 57 = .ok (.aload_n 3, 1) := by decide +kernel
theorem dX1_hear_58 : decode cX1_hear 58 = .ok (.aload_n 1, 1) := by decide +kernel
theorem dX1_hear_59 : decode cX1_hear 59 = .ok (.invokevirtual 62, 3) := by decide +kernel
theorem dX1_hear_62 : decode cX1_hear 62 = .ok (.goto 31, 3) := by decide +kernel
theorem dX1_hear_65 : decode cX1_hear 65 = .ok (.aload_n 0, 1) := by decide +kernel
theorem dX1_hear_66 : decode cX1_hear 66 = .ok (.aload_n 2, 1) := by decide +kernel
theorem dX1_hear_67 : decode cX1_hear 67 = .ok (.aload_n 3, 1) := by decide +kernel
theorem dX1_hear_68 : decode cX1_hear 68 = .ok (.aload_n 1, 1) := by decide +kernel
theorem dX1_hear_69 : decode cX1_hear 69 = .ok (.invokevirtual 66, 3) := by decide +kernel
theorem dX1_hear_72 : decode cX1_hear 72 = .ok (.goto 21, 3) := by decide +kernel
theorem dX1_hear_75 : decode cX1_hear 75 = .ok (.aload_n 0, 1) := by decide +kernel
theorem dX1_hear_76 : decode cX1_hear 76 = .ok (.aload_n 3, 1) := by decide +kernel
theorem dX1_hear_77 : decode cX1_hear 77 = .ok (.aload_n 1, 1) := by decide +kernel
theorem dX1_hear_78 : decode cX1_hear 78 = .ok (.invokevirtual 70, 3) := by decide +kernel
theorem dX1_hear_81 : decode cX1_hear 81 = .ok (.goto 12, 3) := by decide +kernel
theorem dX1_hear_84 : decode cX1_hear 84 = .ok (.aload_n 0, 1) := by decide +kernel
theorem dX1_hear_85 : decode cX1_hear 85 = .ok (.aload_n 3, 1) := by decide +kernel
theorem dX1_hear_86 : decode cX1_hear 86 = .ok (.aload_n 1, 1) := by decide +kernel
theorem dX1_hear_87 : decode cX1_hear 87 = .ok (.invokevirtual 73, 3) := by decide +kernel
theorem dX1_hear_90 : decode cX1_hear 90 = .ok (.goto 3, 3) := by decide +kernel
theorem dX1_hear_93 : decode cX1_hear 93 = .ok (.return_, 1) := by decide +kernel
theorem dX1_hearPrepare_0 : decode cX1_hearPrepare 0 = .ok (.aload_n 2, 1) := by decide +kernel
theorem dX1_hearPrepare_1 : decode cX1_hearPrepare 1 = .ok (.getfield 76, 3) := by decide +kernel
theorem dX1_hearPrepare_4 : decode cX1_hearPrepare 4 = .ok (.aload_n 1, 1) := by decide +kernel
theorem dX1_hearPrepare_5 : decode cX1_hearPrepare 5 = .ok (.getfield 79, 3) := by decide +kernel
theorem dX1_hearPrepare_8 : decode cX1_hearPrepare 8 = .ok (.if_icmp .gt 4, 3) := by decide +kernel
theorem dX1_hearPrepare_11 : decode cX1_hearPrepare 11 = .ok (.return_, 1) := by decide +kernel
theorem dX1_hearPrepare_12 : decode cX1_hearPrepare 12 = .ok (.aload_n 1, 1) := by decide +kernel
theorem dX1_hearPrepare_13 : decode cX1_hearPrepare 13 = .ok (.aload_n 2, 1) := by decide +kernel
theorem dX1_hearPrepare_14 : decode cX1_hearPrepare 14 = .ok (.getfield 76, 3) := by decide +kernel
theorem dX1_hearPrepare_17 : decode cX1_hearPrepare 17 = .ok (.putfield 79, 3) := by decide +kernel
theorem dX1_hearPrepare_20 : decode cX1_hearPrepare 20 = .ok (.aload_n 0, 1) := by decide +kernel
theorem dX1_hearPrepare_21 : decode cX1_hearPrepare 21 = .ok (.getfield 15, 3) := by decide +kernel
theorem dX1_hearPrepare_24 : decode cX1_hearPrepare 24 = .ok (.iconst 5, 1) := by decide +kernel
theorem dX1_hearPrepare_25 : decode cX1_hearPrepare 25 = .ok (.aload_n 2, 1) := by decide +kernel
theorem dX1_hearPrepare_26 : decode cX1_hearPrepare 26 = .ok (.getfield 56, 3) := by decide +kernel
theorem dX1_hearPrepare_29 : decode cX1_hearPrepare 29 = .ok (.aload_n 2, 1) := by decide +kernel
theorem dX1_hearPrepare_30 : decode cX1_hearPrepare 30 = .ok (.getfield 82, 3) := by decide +kernel
theorem dX1_hearPrepare_33 : decode cX1_hearPrepare 33 = .ok (.aload_n 2, 1) := by decide +kernel
theorem dX1_hearPrepare_34 : decode cX1_hearPrepare 34 = .ok (.getfield 76, 3) := by decide +kernel
theorem dX1_hearPrepare_37 : decode cX1_hearPrepare 37 = .ok (.invokevirtual 47, 3) := by decide +kernel
theorem dX1_hearPrepare_40 : decode cX1_hearPrepare 40 = .ok (.astore_n 3, 1) := by decide +kernel
theorem dX1_hearPrepare_41 : decode cX1_hearPrepare 41 = .ok (.aload_n 3, 1) := by decide +kernel
theorem dX1_hearPrepare_42 : decode cX1_hearPrepare 42 = .ok (.aload_n 2, 1) := by decide +kernel
theorem dX1_hearPrepare_43 : decode cX1_hearPrepare 43 = .ok (.getfield 51, 3) := by decide +kernel
theorem dX1_hearPrepare_46 : decode cX1_hearPrepare 46 = .ok (.putfield 51, 3) := by decide +kernel
theorem dX1_hearPrepare_49 : decode cX1_hearPrepare 49 = .ok (.aload_n 3, 1) := by decide +kernel
theorem dX1_hearPrepare_50 : decode cX1_hearPrepare 50 = .ok (.aload_n 1, 1) := by decide +kernel
theorem dX1_hearPrepare_51 : decode cX1_hearPrepare 51 = .ok (.getfield 85, 3) := by decide +kernel
theorem dX1_hearPrepare_54 : decode cX1_hearPrepare 54 = .ok (.putfield 88, 3) := by decide +kernel
theorem dX1_hearPrepare_57 : decode cX1_hearPrepare 57 = .ok (.aload_n 3, 1) := by decide +kernel
theorem dX1_hearPrepare_58 : decode cX1_hearPrepare 58 = .ok (.aload_n 1, 1) := by decide +kernel
theorem dX1_hearPrepare_59 : decode cX1_hearPrepare 59 = .ok (.getfield 89, 3) := by decide +kernel
theorem dX1_hearPrepare_62 : decode cX1_hearPrepare 62 = .ok (.putfield 92, 3) := by decide +kernel
theorem dX1_hearPrepare_65 : decode cX1_hearPrepare 65 = .ok (.return_, 1) := by decide +kernel
theorem dX1_hearPromised_0 : decode cX1_hearPromised 0 = .ok (.aload_n 2, 1) := by decide +kernel
theorem dX1_hearPromised_1 : decode cX1_hearPromised 1 = .ok (.getfield 44, 3) := by decide +kernel
theorem dX1_hearPromised_4 : decode cX1_hearPromised 4 = .ok (.aload_n 3, 1) := by decide +kernel
theorem dX1_hearPromised_5 : decode cX1_hearPromised 5 = .ok (.getfield 76, 3) := by decide +kernel
theorem dX1_hearPromised_8 : decode cX1_hearPromised 8 = .ok (.if_icmp .ne 21, 3) := by decide +kernel
theorem dX1_hearPromised_11 : decode cX1_hearPromised 11 = .ok (.aload_n 2, 1) := by decide +kernel
theorem dX1_hearPromised_12 : decode cX1_hearPromised 12 = .ok (.getfield 79, 3) := by decide +kernel
theorem dX1_hearPromised_15 : decode cX1_hearPromised 15 = .ok (.aload_n 3, 1) := by decide +kernel
theorem dX1_hearPromised_16 : decode cX1_hearPromised 16 = .ok (.getfield 76, 3) := by decide +kernel
theorem dX1_hearPromised_19 : decode cX1_hearPromised 19 = .ok (.if_icmp .ne 10, 3) := by decide +kernel
theorem dX1_hearPromised_22 : decode cX1_hearPromised 22 = .ok (.aload_n 2, 1) := by decide +kernel
theorem dX1_hearPromised_23 : decode cX1_hearPromised 23 = .ok (.getfield 95, 3) := by decide +kernel
theorem dX1_hearPromised_26 : decode cX1_hearPromised 26 = .ok (.ifCond .eq 4, 3) := by decide +kernel
theorem dX1_hearPromised_29 : decode cX1_hearPromised 29 = .ok (.return_, 1) := by decide +kernel
theorem dX1_hearPromised_30 : decode cX1_hearPromised 30 = .ok (.aload_n 2, 1) := by decide +kernel
theorem dX1_hearPromised_31 : decode cX1_hearPromised 31 = .ok (.dup, 1) := by decide +kernel
theorem dX1_hearPromised_32 : decode cX1_hearPromised 32 = .ok (.getfield 99, 3) := by decide +kernel
theorem dX1_hearPromised_35 : decode cX1_hearPromised 35 = .ok (.iconst 1, 1) := by decide +kernel
theorem dX1_hearPromised_36 : decode cX1_hearPromised 36 = .ok (.aload_n 3, 1) := by decide +kernel
theorem dX1_hearPromised_37 : decode cX1_hearPromised 37 = .ok (.getfield 82, 3) := by decide +kernel
theorem dX1_hearPromised_40 : decode cX1_hearPromised 40 = .ok (.ishl, 1) := by decide +kernel
theorem dX1_hearPromised_41 : decode cX1_hearPromised 41 = .ok (.ior, 1) := by decide +kernel
theorem dX1_hearPromised_42 : decode cX1_hearPromised 42 = .ok (.putfield 99, 3) := by decide +kernel
theorem dX1_hearPromised_45 : decode cX1_hearPromised 45 = .ok (.aload_n 2, 1) := by decide +kernel
theorem dX1_hearPromised_46 : decode cX1_hearPromised 46 = .ok (.aload_n 3, 1) := by decide +kernel
theorem dX1_hearPromised_47 : decode cX1_hearPromised 47 = .ok (.getfield 88, 3) := by decide +kernel
theorem dX1_hearPromised_50 : decode cX1_hearPromised 50 = .ok (.aload_n 3, 1) := by decide +kernel
theorem dX1_hearPromised_51 : decode cX1_hearPromised 51 = .ok (.getfield 92, 3) := by decide +kernel
theorem dX1_hearPromised_54 : decode cX1_hearPromised 54 = .ok (.invokevirtual 102, 3) := by decide +kernel
theorem dX1_hearPromised_57 : decode cX1_hearPromised 57 = .ok (.aload_n 0, 1) := by decide +kernel
theorem dX1_hearPromised_58 : decode cX1_hearPromised 58 = .ok (.getfield 15, 3) := by decide +kernel
theorem dX1_hearPromised_61 : decode cX1_hearPromised 61 = .ok (.aload_n 2, 1) := by decide +kernel
theorem dX1_hearPromised_62 : decode cX1_hearPromised 62 = .ok (.getfield 99, 3) := by decide +kernel
theorem dX1_hearPromised_65 : decode cX1_hearPromised 65 = .ok (.invokevirtual 106, 3) := by decide +kernel
theorem dX1_hearPromised_68 : decode cX1_hearPromised 68 = .ok (.ifCond .eq 13, 3) := by decide +kernel
theorem dX1_hearPromised_71 : decode cX1_hearPromised 71 = .ok (.aload_n 0, 1) := by decide +kernel
theorem dX1_hearPromised_72 : decode cX1_hearPromised 72 = .ok (.aload_n 1, 1) := by decide +kernel
theorem dX1_hearPromised_73 : decode cX1_hearPromised 73 = .ok (.aload_n 2, 1) := by decide +kernel
theorem dX1_hearPromised_74 : decode cX1_hearPromised 74 = .ok (.aload_n 3, 1) := by decide +kernel
theorem dX1_hearPromised_75 : decode cX1_hearPromised 75 = .ok (.getfield 51, 3) := by decide +kernel
theorem dX1_hearPromised_78 : decode cX1_hearPromised 78 = .ok (.invokevirtual 110, 3) := by decide +kernel
theorem dX1_hearPromised_81 : decode cX1_hearPromised 81 = .ok (.return_, 1) := by decide +kernel
theorem dX1_sendAccepts_0 : decode cX1_sendAccepts 0 = .ok (.aload_n 2, 1) := by decide +kernel
theorem dX1_sendAccepts_1 : decode cX1_sendAccepts 1 = .ok (.iconst 1, 1) := by decide +kernel
theorem dX1_sendAccepts_2 : decode cX1_sendAccepts 2 = .ok (.putfield 95, 3) := by decide +kernel
theorem dX1_sendAccepts_5 : decode cX1_sendAccepts 5 = .ok (.aload_n 2, 1) := by decide +kernel
theorem dX1_sendAccepts_6 : decode cX1_sendAccepts 6 = .ok (.iconst 1, 1) := by decide +kernel
theorem dX1_sendAccepts_7 : decode cX1_sendAccepts 7 = .ok (.aload_n 1, 1) := by decide +kernel
theorem dX1_sendAccepts_8 : decode cX1_sendAccepts 8 = .ok (.getfield 25, 3) := by decide +kernel
theorem dX1_sendAccepts_11 : decode cX1_sendAccepts 11 = .ok (.ishl, 1) := by decide +kernel
theorem dX1_sendAccepts_12 : decode cX1_sendAccepts 12 = .ok (.putfield 99, 3) := by decide +kernel
theorem dX1_sendAccepts_15 : decode cX1_sendAccepts 15 = .ok (.aload_n 2, 1) := by decide +kernel
theorem dX1_sendAccepts_16 : decode cX1_sendAccepts 16 = .ok (.getfield 114, 3) := by decide +kernel
theorem dX1_sendAccepts_19 : decode cX1_sendAccepts 19 = .ok (.iconst (-1), 1) := by decide +kernel
theorem dX1_sendAccepts_20 : decode cX1_sendAccepts 20 = .ok (.if_icmp .eq 11, 3) := by decide +kernel
theorem dX1_sendAccepts_23 : decode cX1_sendAccepts 23 = .ok (.aload_n 2, 1) := by decide +kernel
theorem dX1_sendAccepts_24 : decode cX1_sendAccepts 24 = .ok (.aload_n 2, 1) := by decide +kernel
theorem dX1_sendAccepts_25 : decode cX1_sendAccepts 25 = .ok (.getfield 117, 3) := by decide +kernel
theorem dX1_sendAccepts_28 : decode cX1_sendAccepts 28 = .ok (.putfield 120, 3) := by decide +kernel
theorem dX1_sendAccepts_31 : decode cX1_sendAccepts 31 = .ok (.aload_n 2, 1) := by decide +kernel
theorem dX1_sendAccepts_32 : decode cX1_sendAccepts 32 = .ok (.aload_n 2, 1) := by decide +kernel
theorem dX1_sendAccepts_33 : decode cX1_sendAccepts 33 = .ok (.getfield 44, 3) := by decide +kernel
theorem dX1_sendAccepts_36 : decode cX1_sendAccepts 36 = .ok (.aload_n 2, 1) := by decide +kernel
theorem dX1_sendAccepts_37 : decode cX1_sendAccepts 37 = .ok (.getfield 120, 3) := by decide +kernel
theorem dX1_sendAccepts_40 : decode cX1_sendAccepts 40 = .ok (.invokevirtual 121, 3) := by decide +kernel
theorem dX1_sendAccepts_43 : decode cX1_sendAccepts 43 = .ok (.iconst 0, 1) := by decide +kernel
theorem dX1_sendAccepts_44 : decode cX1_sendAccepts 44 = .ok (.istore 4, 2) := by decide +kernel
theorem dX1_sendAccepts_46 : decode cX1_sendAccepts 46 = .ok (.iload 4, 2) := by decide +kernel
theorem dX1_sendAccepts_48 : decode cX1_sendAccepts 48 = .ok (.aload_n 0, 1) := by decide +kernel
theorem dX1_sendAccepts_49 : decode cX1_sendAccepts 49 = .ok (.getfield 15, 3) := by decide +kernel
theorem dX1_sendAccepts_52 : decode cX1_sendAccepts 52 = .ok (.getfield 39, 3) := by decide +kernel
theorem dX1_sendAccepts_55 : decode cX1_sendAccepts 55 = .ok (.if_icmp .ge 54, 3) := by decide +kernel
theorem dX1_sendAccepts_58 : decode cX1_sendAccepts 58 = .ok (.iload 4, 2) := by decide +kernel
theorem dX1_sendAccepts_60 : decode cX1_sendAccepts 60 = .ok (.aload_n 1, 1) := by decide +kernel
theorem dX1_sendAccepts_61 : decode cX1_sendAccepts 61 = .ok (.getfield 25, 3) := by decide +kernel
theorem dX1_sendAccepts_64 : decode cX1_sendAccepts 64 = .ok (.if_icmp .eq 39, 3) := by decide +kernel
theorem dX1_sendAccepts_67 : decode cX1_sendAccepts 67 = .ok (.aload_n 0, 1) := by decide +kernel
theorem dX1_sendAccepts_68 : decode cX1_sendAccepts 68 = .ok (.getfield 15, 3) := by decide +kernel
theorem dX1_sendAccepts_71 : decode cX1_sendAccepts 71 = .ok (.bipush 6, 2) := by decide +kernel
theorem dX1_sendAccepts_73 : decode cX1_sendAccepts 73 = .ok (.aload_n 1, 1) := by decide +kernel
theorem dX1_sendAccepts_74 : decode cX1_sendAccepts 74 = .ok (.getfield 25, 3) := by decide +kernel
theorem dX1_sendAccepts_77 : decode cX1_sendAccepts 77 = .ok (.iload 4, 2) := by decide +kernel
theorem dX1_sendAccepts_79 : decode cX1_sendAccepts 79 = .ok (.aload_n 2, 1) := by decide +kernel
theorem dX1_sendAccepts_80 : decode cX1_sendAccepts 80 = .ok (.getfield 44, 3) := by decide +kernel
theorem dX1_sendAccepts_83 : decode cX1_sendAccepts 83 = .ok (.invokevirtual 47, 3) := by decide +kernel
theorem dX1_sendAccepts_86 : decode cX1_sendAccepts 86 = .ok (.astore 5, 2) := by decide +kernel
theorem dX1_sendAccepts_88 : decode cX1_sendAccepts 88 = .ok (.aload 5, 2) := by decide +kernel
theorem dX1_sendAccepts_90 : decode cX1_sendAccepts 90 = .ok (.iload_n 3, 1) := by decide +kernel
theorem dX1_sendAccepts_91 : decode cX1_sendAccepts 91 = .ok (.putfield 51, 3) := by decide +kernel
theorem dX1_sendAccepts_94 : decode cX1_sendAccepts 94 = .ok (.aload 5, 2) := by decide +kernel
theorem dX1_sendAccepts_96 : decode cX1_sendAccepts 96 = .ok (.aload_n 2, 1) := by decide +kernel
theorem dX1_sendAccepts_97 : decode cX1_sendAccepts 97 = .ok (.getfield 120, 3) := by decide +kernel
theorem dX1_sendAccepts_100 : decode cX1_sendAccepts 100 = .ok (.putfield 92, 3) := by decide +kernel
theorem dX1_sendAccepts_103 : decode cX1_sendAccepts 103 = .ok (.iinc 4 1, 3) := by decide +kernel
theorem dX1_sendAccepts_106 : decode cX1_sendAccepts 106 = .ok (.goto (-60), 3) := by decide +kernel
theorem dX1_sendAccepts_109 : decode cX1_sendAccepts 109 = .ok (.return_, 1) := by decide +kernel
theorem dX1_hearAccept_0 : decode cX1_hearAccept 0 = .ok (.aload_n 2, 1) := by decide +kernel
theorem dX1_hearAccept_1 : decode cX1_hearAccept 1 = .ok (.getfield 76, 3) := by decide +kernel
theorem dX1_hearAccept_4 : decode cX1_hearAccept 4 = .ok (.aload_n 1, 1) := by decide +kernel
theorem dX1_hearAccept_5 : decode cX1_hearAccept 5 = .ok (.getfield 79, 3) := by decide +kernel
theorem dX1_hearAccept_8 : decode cX1_hearAccept 8 = .ok (.if_icmp .ge 4, 3) := by decide +kernel
theorem dX1_hearAccept_11 : decode cX1_hearAccept 11 = .ok (.return_, 1) := by decide +kernel
theorem dX1_hearAccept_12 : decode cX1_hearAccept 12 = .ok (.aload_n 1, 1) := by decide +kernel
theorem dX1_hearAccept_13 : decode cX1_hearAccept 13 = .ok (.aload_n 2, 1) := by decide +kernel
theorem dX1_hearAccept_14 : decode cX1_hearAccept 14 = .ok (.getfield 76, 3) := by decide +kernel
theorem dX1_hearAccept_17 : decode cX1_hearAccept 17 = .ok (.aload_n 2, 1) := by decide +kernel
theorem dX1_hearAccept_18 : decode cX1_hearAccept 18 = .ok (.getfield 92, 3) := by decide +kernel
theorem dX1_hearAccept_21 : decode cX1_hearAccept 21 = .ok (.invokevirtual 121, 3) := by decide +kernel
theorem dX1_hearAccept_24 : decode cX1_hearAccept 24 = .ok (.aload_n 0, 1) := by decide +kernel
theorem dX1_hearAccept_25 : decode cX1_hearAccept 25 = .ok (.getfield 15, 3) := by decide +kernel
theorem dX1_hearAccept_28 : decode cX1_hearAccept 28 = .ok (.bipush 7, 2) := by decide +kernel
theorem dX1_hearAccept_30 : decode cX1_hearAccept 30 = .ok (.aload_n 2, 1) := by decide +kernel
theorem dX1_hearAccept_31 : decode cX1_hearAccept 31 = .ok (.getfield 56, 3) := by decide +kernel
theorem dX1_hearAccept_34 : decode cX1_hearAccept 34 = .ok (.aload_n 2, 1) := by decide +kernel
theorem dX1_hearAccept_35 : decode cX1_hearAccept 35 = .ok (.getfield 82, 3) := by decide +kernel
theorem dX1_hearAccept_38 : decode cX1_hearAccept 38 = .ok (.aload_n 2, 1) := by decide +kernel
theorem dX1_hearAccept_39 : decode cX1_hearAccept 39 = .ok (.getfield 76, 3) := by decide +kernel
theorem dX1_hearAccept_42 : decode cX1_hearAccept 42 = .ok (.invokevirtual 47, 3) := by decide +kernel
theorem dX1_hearAccept_45 : decode cX1_hearAccept 45 = .ok (.aload_n 2, 1) := by decide +kernel
theorem dX1_hearAccept_46 : decode cX1_hearAccept 46 = .ok (.getfield 51, 3) := by decide +kernel
theorem dX1_hearAccept_49 : decode cX1_hearAccept 49 = .ok (.putfield 51, 3) := by decide +kernel
theorem dX1_hearAccept_52 : decode cX1_hearAccept 52 = .ok (.return_, 1) := by decide +kernel
theorem dX1_hearAccepted_0 : decode cX1_hearAccepted 0 = .ok (.aload_n 1, 1) := by decide +kernel
theorem dX1_hearAccepted_1 : decode cX1_hearAccepted 1 = .ok (.getfield 44, 3) := by decide +kernel
theorem dX1_hearAccepted_4 : decode cX1_hearAccepted 4 = .ok (.aload_n 2, 1) := by decide +kernel
theorem dX1_hearAccepted_5 : decode cX1_hearAccepted 5 = .ok (.getfield 76, 3) := by decide +kernel
theorem dX1_hearAccepted_8 : decode cX1_hearAccepted 8 = .ok (.if_icmp .ne 10, 3) := by decide +kernel
theorem dX1_hearAccepted_11 : decode cX1_hearAccepted 11 = .ok (.aload_n 1, 1) := by decide +kernel
theorem dX1_hearAccepted_12 : decode cX1_hearAccepted 12 = .ok (.getfield 95, 3) := by decide +kernel
theorem dX1_hearAccepted_15 : decode cX1_hearAccepted 15 = .ok (.ifCond .ne 4, 3) := by decide +kernel
theorem dX1_hearAccepted_18 : decode cX1_hearAccepted 18 = .ok (.return_, 1) := by decide +kernel
theorem dX1_hearAccepted_19 : decode cX1_hearAccepted 19 = .ok (.aload_n 1, 1) := by decide +kernel
theorem dX1_hearAccepted_20 : decode cX1_hearAccepted 20 = .ok (.dup, 1) := by decide +kernel
theorem dX1_hearAccepted_21 : decode cX1_hearAccepted 21 = .ok (.getfield 99, 3) := by decide +kernel
theorem dX1_hearAccepted_24 : decode cX1_hearAccepted 24 = .ok (.iconst 1, 1) := by decide +kernel
theorem dX1_hearAccepted_25 : decode cX1_hearAccepted 25 = .ok (.aload_n 2, 1) := by decide +kernel
theorem dX1_hearAccepted_26 : decode cX1_hearAccepted 26 = .ok (.getfield 82, 3) := by decide +kernel
theorem dX1_hearAccepted_29 : decode cX1_hearAccepted 29 = .ok (.ishl, 1) := by decide +kernel
theorem dX1_hearAccepted_30 : decode cX1_hearAccepted 30 = .ok (.ior, 1) := by decide +kernel
theorem dX1_hearAccepted_31 : decode cX1_hearAccepted 31 = .ok (.putfield 99, 3) := by decide +kernel
theorem dX1_hearAccepted_34 : decode cX1_hearAccepted 34 = .ok (.aload_n 0, 1) := by decide +kernel
theorem dX1_hearAccepted_35 : decode cX1_hearAccepted 35 = .ok (.getfield 15, 3) := by decide +kernel
theorem dX1_hearAccepted_38 : decode cX1_hearAccepted 38 = .ok (.aload_n 1, 1) := by decide +kernel
theorem dX1_hearAccepted_39 : decode cX1_hearAccepted 39 = .ok (.getfield 99, 3) := by decide +kernel
theorem dX1_hearAccepted_42 : decode cX1_hearAccepted 42 = .ok (.invokevirtual 106, 3) := by decide +kernel
theorem dX1_hearAccepted_45 : decode cX1_hearAccepted 45 = .ok (.ifCond .eq 11, 3) := by decide +kernel
theorem dX1_hearAccepted_48 : decode cX1_hearAccepted 48 = .ok (.aload_n 1, 1) := by decide +kernel
theorem dX1_hearAccepted_49 : decode cX1_hearAccepted 49 = .ok (.aload_n 1, 1) := by decide +kernel
theorem dX1_hearAccepted_50 : decode cX1_hearAccepted 50 = .ok (.getfield 120, 3) := by decide +kernel
theorem dX1_hearAccepted_53 : decode cX1_hearAccepted 53 = .ok (.putfield 124, 3) := by decide +kernel
theorem dX1_hearAccepted_56 : decode cX1_hearAccepted 56 = .ok (.return_, 1) := by decide +kernel
theorem dX2_init_0 : decode cX2_init 0 = .ok (.aload_n 0, 1) := by decide +kernel
theorem dX2_init_1 : decode cX2_init 1 = .ok (.invokespecial 3, 3) := by decide +kernel
theorem dX2_init_4 : decode cX2_init 4 = .ok (.return_, 1) := by decide +kernel
theorem dX2_renew_0 : decode cX2_renew 0 = .ok (.aload_n 0, 1) := by decide +kernel
theorem dX2_renew_1 : decode cX2_renew 1 = .ok (.iconst (-1), 1) := by decide +kernel
theorem dX2_renew_2 : decode cX2_renew 2 = .ok (.putfield 9, 3) := by decide +kernel
theorem dX2_renew_5 : decode cX2_renew 5 = .ok (.aload_n 0, 1) := by decide +kernel
theorem dX2_renew_6 : decode cX2_renew 6 = .ok (.iconst (-1), 1) := by decide +kernel
theorem dX2_renew_7 : decode cX2_renew 7 = .ok (.putfield 15, 3) := by decide +kernel
theorem dX2_renew_10 : decode cX2_renew 10 = .ok (.aload_n 0, 1) := by decide +kernel
theorem dX2_renew_11 : decode cX2_renew 11 = .ok (.iconst (-1), 1) := by decide +kernel
theorem dX2_renew_12 : decode cX2_renew 12 = .ok (.putfield 18, 3) := by decide +kernel
theorem dX2_renew_15 : decode cX2_renew 15 = .ok (.aload_n 0, 1) := by decide +kernel
theorem dX2_renew_16 : decode cX2_renew 16 = .ok (.iconst (-1), 1) := by decide +kernel
theorem dX2_renew_17 : decode cX2_renew 17 = .ok (.putfield 21, 3) := by decide +kernel
theorem dX2_renew_20 : decode cX2_renew 20 = .ok (.aload_n 0, 1) := by decide +kernel
theorem dX2_renew_21 : decode cX2_renew 21 = .ok (.invokevirtual 24, 3) := by decide +kernel
theorem dX2_renew_24 : decode cX2_renew 24 = .ok (.return_, 1) := by decide +kernel
theorem dX2_dropProposal_0 : decode cX2_dropProposal 0 = .ok (.aload_n 0, 1) := by decide +kernel
theorem dX2_dropProposal_1 : decode cX2_dropProposal 1 = .ok (.iconst (-1), 1) := by decide +kernel
theorem dX2_dropProposal_2 : decode cX2_dropProposal 2 = .ok (.putfield 27, 3) := by decide +kernel
theorem dX2_dropProposal_5 : decode cX2_dropProposal 5 = .ok (.return_, 1) := by decide +kernel
theorem dX2_nextBallot_0 : decode cX2_nextBallot 0 = .ok (.aload_n 0, 1) := by decide +kernel
theorem dX2_nextBallot_1 : decode cX2_nextBallot 1 = .ok (.getfield 9, 3) := by decide +kernel
theorem dX2_nextBallot_4 : decode cX2_nextBallot 4 = .ok (.iload_n 1, 1) := by decide +kernel
theorem dX2_nextBallot_5 : decode cX2_nextBallot 5 = .ok (.if_icmp .ge 7, 3) := by decide +kernel
theorem dX2_nextBallot_8 : decode cX2_nextBallot 8 = .ok (.iconst 0, 1) := by decide +kernel
theorem dX2_nextBallot_9 : decode cX2_nextBallot 9 = .ok (.goto 14, 3) := by decide +kernel
theorem dX2_nextBallot_12 : decode cX2_nextBallot 12 = .ok (.aload_n 0, 1) := by decide +kernel
theorem dX2_nextBallot_13 : decode cX2_nextBallot 13 = .ok (.getfield 9, 3) := by decide +kernel
theorem dX2_nextBallot_16 : decode cX2_nextBallot 16 = .ok (.iload_n 1, 1) := by decide +kernel
theorem dX2_nextBallot_17 : decode cX2_nextBallot 17 = .ok (.isub, 1) := by decide +kernel
theorem dX2_nextBallot_18 : decode cX2_nextBallot 18 = .ok (.bipush 8, 2) := by decide +kernel
theorem dX2_nextBallot_20 : decode cX2_nextBallot 20 = .ok (.idiv, 1) := by decide +kernel
theorem dX2_nextBallot_21 : decode cX2_nextBallot 21 = .ok (.iconst 1, 1) := by decide +kernel
theorem dX2_nextBallot_22 : decode cX2_nextBallot 22 = .ok (.iadd, 1) := by decide +kernel
theorem dX2_nextBallot_23 : decode cX2_nextBallot 23 = .ok (.istore_n 2, 1) := by decide +kernel
theorem dX2_nextBallot_24 : decode cX2_nextBallot 24 = .ok (.bipush 8, 2) := by decide +kernel
theorem dX2_nextBallot_26 : decode cX2_nextBallot 26 = .ok (.iload_n 2, 1) := by decide +kernel
theorem dX2_nextBallot_27 : decode cX2_nextBallot 27 = .ok (.imul, 1) := by decide +kernel
theorem dX2_nextBallot_28 : decode cX2_nextBallot 28 = .ok (.iload_n 1, 1) := by decide +kernel
theorem dX2_nextBallot_29 : decode cX2_nextBallot 29 = .ok (.iadd, 1) := by decide +kernel
theorem dX2_nextBallot_30 : decode cX2_nextBallot 30 = .ok (.ireturn, 1) := by decide +kernel
theorem dX2_startProposal_0 : decode cX2_startProposal 0 = .ok (.aload_n 0, 1) := by decide +kernel
theorem dX2_startProposal_1 : decode cX2_startProposal 1 = .ok (.iload_n 1, 1) := by decide +kernel
theorem dX2_startProposal_2 : decode cX2_startProposal 2 = .ok (.putfield 9, 3) := by decide +kernel
theorem dX2_startProposal_5 : decode cX2_startProposal 5 = .ok (.aload_n 0, 1) := by decide +kernel
theorem dX2_startProposal_6 : decode cX2_startProposal 6 = .ok (.iload_n 1, 1) := by decide +kernel
theorem dX2_startProposal_7 : decode cX2_startProposal 7 = .ok (.putfield 27, 3) := by decide +kernel
theorem dX2_startProposal_10 : decode cX2_startProposal 10 = .ok (.aload_n 0, 1) := by decide +kernel
theorem dX2_startProposal_11 : decode cX2_startProposal 11 = .ok (.iload_n 2, 1) := by decide +kernel
theorem dX2_startProposal_12 : decode cX2_startProposal 12 = .ok (.putfield 30, 3) := by decide +kernel
theorem dX2_startProposal_15 : decode cX2_startProposal 15 = .ok (.aload_n 0, 1) := by decide +kernel
theorem dX2_startProposal_16 : decode cX2_startProposal 16 = .ok (.iconst 0, 1) := by decide +kernel
theorem dX2_startProposal_17 : decode cX2_startProposal 17 = .ok (.putfield 33, 3) := by decide +kernel
theorem dX2_startProposal_20 : decode cX2_startProposal 20 = .ok (.aload_n 0, 1) := by decide +kernel
theorem dX2_startProposal_21 : decode cX2_startProposal 21 = .ok (.iconst 1, 1) := by decide +kernel
theorem dX2_startProposal_22 : decode cX2_startProposal 22 = .ok (.iload_n 3, 1) := by decide +kernel
theorem dX2_startProposal_23 : decode cX2_startProposal 23 = .ok (.ishl, 1) := by decide +kernel
theorem dX2_startProposal_24 : decode cX2_startProposal 24 = .ok (.putfield 37, 3) := by decide +kernel
theorem dX2_startProposal_27 : decode cX2_startProposal 27 = .ok (.aload_n 0, 1) := by decide +kernel
theorem dX2_startProposal_28 : decode cX2_startProposal 28 = .ok (.aload_n 0, 1) := by decide +kernel
theorem dX2_startProposal_29 : decode cX2_startProposal 29 = .ok (.getfield 15, 3) := by decide +kernel
theorem dX2_startProposal_32 : decode cX2_startProposal 32 = .ok (.putfield 40, 3) := by decide +kernel
theorem dX2_startProposal_35 : decode cX2_startProposal 35 = .ok (.aload_n 0, 1) := by decide +kernel
theorem dX2_startProposal_36 : decode cX2_startProposal 36 = .ok (.aload_n 0, 1) := by decide +kernel
theorem dX2_startProposal_37 : decode cX2_startProposal 37 = .ok (.getfield 18, 3) := by decide +kernel
theorem dX2_startProposal_40 : decode cX2_startProposal 40 = .ok (.putfield 43, 3) := by decide +kernel
theorem dX2_startProposal_43 : decode cX2_startProposal 43 = .ok (.return_, 1) := by decide +kernel
theorem dX2_learnTold_0 : decode cX2_learnTold 0 = .ok (.iload_n 1, 1) := by decide +kernel
theorem dX2_learnTold_1 : decode cX2_learnTold 1 = .ok (.aload_n 0, 1) := by decide +kernel
theorem dX2_learnTold_2 : decode cX2_learnTold 2 = .ok (.getfield 40, 3) := by decide +kernel
theorem dX2_learnTold_5 : decode cX2_learnTold 5 = .ok (.if_icmp .le 13, 3) := by decide +kernel
theorem dX2_learnTold_8 : decode cX2_learnTold 8 = .ok (.aload_n 0, 1) := by decide +kernel
theorem dX2_learnTold_9 : decode cX2_learnTold 9 = .ok (.iload_n 1, 1) := by decide +kernel
theorem dX2_learnTold_10 : decode cX2_learnTold 10 = .ok (.putfield 40, 3) := by decide +kernel
theorem dX2_learnTold_13 : decode cX2_learnTold 13 = .ok (.aload_n 0, 1) := by decide +kernel
theorem dX2_learnTold_14 : decode cX2_learnTold 14 = .ok (.iload_n 2, 1) := by decide +kernel
theorem dX2_learnTold_15 : decode cX2_learnTold 15 = .ok (.putfield 43, 3) := by decide +kernel
theorem dX2_learnTold_18 : decode cX2_learnTold 18 = .ok (.return_, 1) := by decide +kernel
theorem dX2_takeOn_0 : decode cX2_takeOn 0 = .ok (.aload_n 0, 1) := by decide +kernel
theorem dX2_takeOn_1 : decode cX2_takeOn 1 = .ok (.iload_n 1, 1) := by decide +kernel
theorem dX2_takeOn_2 : decode cX2_takeOn 2 = .ok (.putfield 9, 3) := by decide +kernel
theorem dX2_takeOn_5 : decode cX2_takeOn 5 = .ok (.aload_n 0, 1) := by decide +kernel
theorem dX2_takeOn_6 : decode cX2_takeOn 6 = .ok (.iload_n 1, 1) := by decide +kernel
theorem dX2_takeOn_7 : decode cX2_takeOn 7 = .ok (.putfield 15, 3) := by decide +kernel
theorem dX2_takeOn_10 : decode cX2_takeOn 10 = .ok (.aload_n 0, 1) := by decide +kernel
theorem dX2_takeOn_11 : decode cX2_takeOn 11 = .ok (.iload_n 2, 1) := by decide +kernel
theorem dX2_takeOn_12 : decode cX2_takeOn 12 = .ok (.putfield 18, 3) := by decide +kernel
theorem dX2_takeOn_15 : decode cX2_takeOn 15 = .ok (.return_, 1) := by decide +kernel
theorem dX3_init_0 : decode cX3_init 0 = .ok (.aload_n 0, 1) := by decide +kernel
theorem dX3_init_1 : decode cX3_init 1 = .ok (.invokespecial 1, 3) := by decide +kernel
theorem dX3_init_4 : decode cX3_init 4 = .ok (.aload_n 0, 1) := by decide +kernel
theorem dX3_init_5 : decode cX3_init 5 = .ok (.iload_n 1, 1) := by decide +kernel
theorem dX3_init_6 : decode cX3_init 6 = .ok (.putfield 7, 3) := by decide +kernel
theorem dX3_init_9 : decode cX3_init 9 = .ok (.aload_n 0, 1) := by decide +kernel
theorem dX3_init_10 : decode cX3_init 10 = .ok (.iload_n 2, 1) := by decide +kernel
theorem dX3_init_11 : decode cX3_init 11 = .ok (.putfield 13, 3) := by decide +kernel
theorem dX3_init_14 : decode cX3_init 14 = .ok (.aload_n 0, 1) := by decide +kernel
theorem dX3_init_15 : decode cX3_init 15 = .ok (.iload_n 3, 1) := by decide +kernel
theorem dX3_init_16 : decode cX3_init 16 = .ok (.putfield 16, 3) := by decide +kernel
theorem dX3_init_19 : decode cX3_init 19 = .ok (.aload_n 0, 1) := by decide +kernel
theorem dX3_init_20 : decode cX3_init 20 = .ok (.iload 4, 2) := by decide +kernel
theorem dX3_init_22 : decode cX3_init 22 = .ok (.putfield 19, 3) := by decide +kernel
theorem dX3_init_25 : decode cX3_init 25 = .ok (.return_, 1) := by decide +kernel
theorem dX3_isLike_0 : decode cX3_isLike 0 = .ok (.aload_n 0, 1) := by decide +kernel
theorem dX3_isLike_1 : decode cX3_isLike 1 = .ok (.getfield 7, 3) := by decide +kernel
theorem dX3_isLike_4 : decode cX3_isLike 4 = .ok (.aload_n 1, 1) := by decide +kernel
theorem dX3_isLike_5 : decode cX3_isLike 5 = .ok (.getfield 7, 3) := by decide +kernel
theorem dX3_isLike_8 : decode cX3_isLike 8 = .ok (.if_icmp .ne 40, 3) := by decide +kernel
theorem dX3_isLike_11 : decode cX3_isLike 11 = .ok (.aload_n 0, 1) := by decide +kernel
theorem dX3_isLike_12 : decode cX3_isLike 12 = .ok (.getfield 13, 3) := by decide +kernel
theorem dX3_isLike_15 : decode cX3_isLike 15 = .ok (.aload_n 1, 1) := by decide +kernel
theorem dX3_isLike_16 : decode cX3_isLike 16 = .ok (.getfield 13, 3) := by decide +kernel
theorem dX3_isLike_19 : decode cX3_isLike 19 = .ok (.if_icmp .ne 29, 3) := by decide +kernel
theorem dX3_isLike_22 : decode cX3_isLike 22 = .ok (.aload_n 0, 1) := by decide +kernel
theorem dX3_isLike_23 : decode cX3_isLike 23 = .ok (.getfield 16, 3) := by decide +kernel
theorem dX3_isLike_26 : decode cX3_isLike 26 = .ok (.aload_n 1, 1) := by decide +kernel
theorem dX3_isLike_27 : decode cX3_isLike 27 = .ok (.getfield 16, 3) := by decide +kernel
theorem dX3_isLike_30 : decode cX3_isLike 30 = .ok (.if_icmp .ne 18, 3) := by decide +kernel
theorem dX3_isLike_33 : decode cX3_isLike 33 = .ok (.aload_n 0, 1) := by decide +kernel
theorem dX3_isLike_34 : decode cX3_isLike 34 = .ok (.getfield 19, 3) := by decide +kernel
theorem dX3_isLike_37 : decode cX3_isLike 37 = .ok (.aload_n 1, 1) := by decide +kernel
theorem dX3_isLike_38 : decode cX3_isLike 38 = .ok (.getfield 19, 3) := by decide +kernel
theorem dX3_isLike_41 : decode cX3_isLike 41 = .ok (.if_icmp .ne 7, 3) := by decide +kernel
theorem dX3_isLike_44 : decode cX3_isLike 44 = .ok (.iconst 1, 1) := by decide +kernel
theorem dX3_isLike_45 : decode cX3_isLike 45 = .ok (.goto 4, 3) := by decide +kernel
theorem dX3_isLike_48 : decode cX3_isLike 48 = .ok (.iconst 0, 1) := by decide +kernel
theorem dX3_isLike_49 : decode cX3_isLike 49 = .ok (.ireturn, 1) := by decide +kernel
theorem dX3_outdoes_0 : decode cX3_outdoes 0 = .ok (.aload_n 0, 1) := by decide +kernel
theorem dX3_outdoes_1 : decode cX3_outdoes 1 = .ok (.getfield 13, 3) := by decide +kernel
theorem dX3_outdoes_4 : decode cX3_outdoes 4 = .ok (.iload_n 1, 1) := by decide +kernel
theorem dX3_outdoes_5 : decode cX3_outdoes 5 = .ok (.if_icmp .ne 15, 3) := by decide +kernel
theorem dX3_outdoes_8 : decode cX3_outdoes 8 = .ok (.aload_n 0, 1) := by decide +kernel
theorem dX3_outdoes_9 : decode cX3_outdoes 9 = .ok (.getfield 16, 3) := by decide +kernel
theorem dX3_outdoes_12 : decode cX3_outdoes 12 = .ok (.iload_n 2, 1) := by decide +kernel
theorem dX3_outdoes_13 : decode cX3_outdoes 13 = .ok (.if_icmp .lt 7, 3) := by decide +kernel
theorem dX3_outdoes_16 : decode cX3_outdoes 16 = .ok (.iconst 1, 1) := by decide +kernel
theorem dX3_outdoes_17 : decode cX3_outdoes 17 = .ok (.goto 4, 3) := by decide +kernel
theorem dX3_outdoes_20 : decode cX3_outdoes 20 = .ok (.iconst 0, 1) := by decide +kernel
theorem dX3_outdoes_21 : decode cX3_outdoes 21 = .ok (.ireturn, 1) := by decide +kernel
theorem dX4_init_0 : decode cX4_init 0 = .ok (.aload_n 0, 1) := by decide +kernel
theorem dX4_init_1 : decode cX4_init 1 = .ok (.invokespecial 3, 3) := by decide +kernel
theorem dX4_init_4 : decode cX4_init 4 = .ok (.aload_n 0, 1) := by decide +kernel
theorem dX4_init_5 : decode cX4_init 5 = .ok (.bipush 14, 2) := by decide +kernel
theorem dX4_init_7 : decode cX4_init 7 = .ok (.anewarray 9, 3) := by decide +kernel
theorem dX4_init_10 : decode cX4_init 10 = .ok (.putfield 11, 3) := by decide +kernel
theorem dX4_init_13 : decode cX4_init 13 = .ok (.aload_n 0, 1) := by decide +kernel
theorem dX4_init_14 : decode cX4_init 14 = .ok (.bipush 14, 2) := by decide +kernel
theorem dX4_init_16 : decode cX4_init 16 = .ok (.anewarray 9, 3) := by decide +kernel
theorem dX4_init_19 : decode cX4_init 19 = .ok (.putfield 17, 3) := by decide +kernel
theorem dX4_init_22 : decode cX4_init 22 = .ok (.iconst 0, 1) := by decide +kernel
theorem dX4_init_23 : decode cX4_init 23 = .ok (.istore_n 1, 1) := by decide +kernel
theorem dX4_init_24 : decode cX4_init 24 = .ok (.iload_n 1, 1) := by decide +kernel
theorem dX4_init_25 : decode cX4_init 25 = .ok (.bipush 14, 2) := by decide +kernel
theorem dX4_init_27 : decode cX4_init 27 = .ok (.if_icmp .ge 22, 3) := by decide +kernel
theorem dX4_init_30 : decode cX4_init 30 = .ok (.aload_n 0, 1) := by decide +kernel
theorem dX4_init_31 : decode cX4_init 31 = .ok (.getfield 11, 3) := by decide +kernel
theorem dX4_init_34 : decode cX4_init 34 = .ok (.iload_n 1, 1) := by decide +kernel
theorem dX4_init_35 : decode cX4_init 35 = .ok (.new 9, 3) := by decide +kernel
theorem dX4_init_38 : decode cX4_init 38 = .ok (.dup, 1) := by decide +kernel
theorem dX4_init_39 : decode cX4_init 39 = .ok (.invokespecial 20, 3) := by decide +kernel
theorem dX4_init_42 : decode cX4_init 42 = .ok (.aastore, 1) := by decide +kernel
theorem dX4_init_43 : decode cX4_init 43 = .ok (.iinc 1 1, 3) := by decide +kernel
theorem dX4_init_46 : decode cX4_init 46 = .ok (.goto (-22), 3) := by decide +kernel
theorem dX4_init_49 : decode cX4_init 49 = .ok (.return_, 1) := by decide +kernel
theorem dX4_renew_0 : decode cX4_renew 0 = .ok (.aload_n 0, 1) := by decide +kernel
theorem dX4_renew_1 : decode cX4_renew 1 = .ok (.iconst 0, 1) := by decide +kernel
theorem dX4_renew_2 : decode cX4_renew 2 = .ok (.putfield 21, 3) := by decide +kernel
theorem dX4_renew_5 : decode cX4_renew 5 = .ok (.aload_n 0, 1) := by decide +kernel
theorem dX4_renew_6 : decode cX4_renew 6 = .ok (.iconst 0, 1) := by decide +kernel
theorem dX4_renew_7 : decode cX4_renew 7 = .ok (.putfield 25, 3) := by decide +kernel
theorem dX4_renew_10 : decode cX4_renew 10 = .ok (.aload_n 0, 1) := by decide +kernel
theorem dX4_renew_11 : decode cX4_renew 11 = .ok (.iconst 0, 1) := by decide +kernel
theorem dX4_renew_12 : decode cX4_renew 12 = .ok (.putfield 28, 3) := by decide +kernel
theorem dX4_renew_15 : decode cX4_renew 15 = .ok (.return_, 1) := by decide +kernel
theorem dX4_goOn_0 : decode cX4_goOn 0 = .ok (.aload_n 0, 1) := by decide +kernel
theorem dX4_goOn_1 : decode cX4_goOn 1 = .ok (.dup, 1) := by decide +kernel
theorem dX4_goOn_2 : decode cX4_goOn 2 = .ok (.getfield 28, 3) := by decide +kernel
theorem dX4_goOn_5 : decode cX4_goOn 5 = .ok (.iconst 1, 1) := by decide +kernel
theorem dX4_goOn_6 : decode cX4_goOn 6 = .ok (.iadd, 1) := by decide +kernel
theorem dX4_goOn_7 : decode cX4_goOn 7 = .ok (.putfield 28, 3) := by decide +kernel
theorem dX4_goOn_10 : decode cX4_goOn 10 = .ok (.return_, 1) := by decide +kernel
theorem dX4_isFull_0 : decode cX4_isFull 0 = .ok (.aload_n 0, 1) := by decide +kernel
theorem dX4_isFull_1 : decode cX4_isFull 1 = .ok (.getfield 21, 3) := by decide +kernel
theorem dX4_isFull_4 : decode cX4_isFull 4 = .ok (.bipush 14, 2) := by decide +kernel
theorem dX4_isFull_6 : decode cX4_isFull 6 = .ok (.if_icmp .lt 7, 3) := by decide +kernel
theorem dX4_isFull_9 : decode cX4_isFull 9 = .ok (.iconst 1, 1) := by decide +kernel
theorem dX4_isFull_10 : decode cX4_isFull 10 = .ok (.goto 4, 3) := by decide +kernel
theorem dX4_isFull_13 : decode cX4_isFull 13 = .ok (.iconst 0, 1) := by decide +kernel
theorem dX4_isFull_14 : decode cX4_isFull 14 = .ok (.ireturn, 1) := by decide +kernel
theorem dX4_at_0 : decode cX4_at 0 = .ok (.iload_n 1, 1) := by decide +kernel
theorem dX4_at_1 : decode cX4_at 1 = .ok (.ifCond .lt 20, 3) := by decide +kernel
theorem dX4_at_4 : decode cX4_at 4 = .ok (.iload_n 1, 1) := by decide +kernel
theorem dX4_at_5 : decode cX4_at 5 = .ok (.aload_n 0, 1) := by decide +kernel
theorem dX4_at_6 : decode cX4_at 6 = .ok (.getfield 21, 3) := by decide +kernel
theorem dX4_at_9 : decode cX4_at 9 = .ok (.if_icmp .ge 12, 3) := by decide +kernel
theorem dX4_at_12 : decode cX4_at 12 = .ok (.aload_n 0, 1) := by decide +kernel
theorem dX4_at_13 : decode cX4_at 13 = .ok (.getfield 11, 3) := by decide +kernel
theorem dX4_at_16 : decode cX4_at 16 = .ok (.iload_n 1, 1) := by decide +kernel
theorem dX4_at_17 : decode cX4_at 17 = .ok (.aaload, 1) := by decide +kernel
theorem dX4_at_18 : decode cX4_at 18 = .ok (.goto 4, 3) := by decide +kernel
theorem dX4_at_21 : decode cX4_at 21 = .ok (.aconst_null, 1) := by decide +kernel
theorem dX4_at_22 : decode cX4_at 22 = .ok (.areturn, 1) := by decide +kernel
theorem dX4_findWrite_0 : decode cX4_findWrite 0 = .ok (.iconst 0, 1) := by decide +kernel
theorem dX4_findWrite_1 : decode cX4_findWrite 1 = .ok (.istore_n 3, 1) := by decide +kernel
theorem dX4_findWrite_2 : decode cX4_findWrite 2 = .ok (.iload_n 3, 1) := by decide +kernel
theorem dX4_findWrite_3 : decode cX4_findWrite 3 = .ok (.aload_n 0, 1) := by decide +kernel
theorem dX4_findWrite_4 : decode cX4_findWrite 4 = .ok (.getfield 21, 3) := by decide +kernel
theorem dX4_findWrite_7 : decode cX4_findWrite 7 = .ok (.if_icmp .ge 54, 3) := by decide +kernel
theorem dX4_findWrite_10 : decode cX4_findWrite 10 = .ok (.aload_n 0, 1) := by decide +kernel
theorem dX4_findWrite_11 : decode cX4_findWrite 11 = .ok (.getfield 11, 3) := by decide +kernel
theorem dX4_findWrite_14 : decode cX4_findWrite 14 = .ok (.iload_n 3, 1) := by decide +kernel
theorem dX4_findWrite_15 : decode cX4_findWrite 15 = .ok (.aaload, 1) := by decide +kernel
theorem dX4_findWrite_16 : decode cX4_findWrite 16 = .ok (.getfield 31, 3) := by decide +kernel
theorem dX4_findWrite_19 : decode cX4_findWrite 19 = .ok (.ifCond .eq 36, 3) := by decide +kernel
theorem dX4_findWrite_22 : decode cX4_findWrite 22 = .ok (.aload_n 0, 1) := by decide +kernel
theorem dX4_findWrite_23 : decode cX4_findWrite 23 = .ok (.getfield 11, 3) := by decide +kernel
theorem dX4_findWrite_26 : decode cX4_findWrite 26 = .ok (.iload_n 3, 1) := by decide +kernel
theorem dX4_findWrite_27 : decode cX4_findWrite 27 = .ok (.aaload, 1) := by decide +kernel
theorem dX4_findWrite_28 : decode cX4_findWrite 28 = .ok (.getfield 35, 3) := by decide +kernel
theorem dX4_findWrite_31 : decode cX4_findWrite 31 = .ok (.iload_n 1, 1) := by decide +kernel
theorem dX4_findWrite_32 : decode cX4_findWrite 32 = .ok (.if_icmp .ne 23, 3) := by decide +kernel
theorem dX4_findWrite_35 : decode cX4_findWrite 35 = .ok (.aload_n 0, 1) := by decide +kernel
theorem dX4_findWrite_36 : decode cX4_findWrite 36 = .ok (.getfield 11, 3) := by decide +kernel
theorem dX4_findWrite_39 : decode cX4_findWrite 39 = .ok (.iload_n 3, 1) := by decide +kernel
theorem dX4_findWrite_40 : decode cX4_findWrite 40 = .ok (.aaload, 1) := by decide +kernel
theorem dX4_findWrite_41 : decode cX4_findWrite 41 = .ok (.getfield 38, 3) := by decide +kernel
theorem dX4_findWrite_44 : decode cX4_findWrite 44 = .ok (.iload_n 2, 1) := by decide +kernel
theorem dX4_findWrite_45 : decode cX4_findWrite 45 = .ok (.if_icmp .ne 10, 3) := by decide +kernel
theorem dX4_findWrite_48 : decode cX4_findWrite 48 = .ok (.aload_n 0, 1) := by decide +kernel
theorem dX4_findWrite_49 : decode cX4_findWrite 49 = .ok (.getfield 11, 3) := by decide +kernel
theorem dX4_findWrite_52 : decode cX4_findWrite 52 = .ok (.iload_n 3, 1) := by decide +kernel
theorem dX4_findWrite_53 : decode cX4_findWrite 53 = .ok (.aaload, 1) := by decide +kernel
theorem dX4_findWrite_54 : decode cX4_findWrite 54 = .ok (.areturn, 1) := by decide +kernel
theorem dX4_findWrite_55 : decode cX4_findWrite 55 = .ok (.iinc 3 1, 3) := by decide +kernel
theorem dX4_findWrite_58 : decode cX4_findWrite 58 = .ok (.goto (-56), 3) := by decide +kernel
theorem dX4_findWrite_61 : decode cX4_findWrite 61 = .ok (.aconst_null, 1) := by decide +kernel
theorem dX4_findWrite_62 : decode cX4_findWrite 62 = .ok (.areturn, 1) := by decide +kernel
theorem dX4_addWrite_0 : decode cX4_addWrite 0 = .ok (.aload_n 0, 1) := by decide +kernel
theorem dX4_addWrite_1 : decode cX4_addWrite 1 = .ok (.getfield 21, 3) := by decide +kernel
theorem dX4_addWrite_4 : decode cX4_addWrite 4 = .ok (.bipush 14, 2) := by decide +kernel
theorem dX4_addWrite_6 : decode cX4_addWrite 6 = .ok (.if_icmp .ge 47, 3) := by decide +kernel
theorem dX4_addWrite_9 : decode cX4_addWrite 9 = .ok (.aload_n 0, 1) := by decide +kernel
theorem dX4_addWrite_10 : decode cX4_addWrite 10 = .ok (.getfield 11, 3) := by decide +kernel
theorem dX4_addWrite_13 : decode cX4_addWrite 13 = .ok (.aload_n 0, 1) := by decide +kernel
theorem dX4_addWrite_14 : decode cX4_addWrite 14 = .ok (.getfield 21, 3) := by decide +kernel
theorem dX4_addWrite_17 : decode cX4_addWrite 17 = .ok (.aaload, 1) := by decide +kernel
theorem dX4_addWrite_18 : decode cX4_addWrite 18 = .ok (.astore 4, 2) := by decide +kernel
theorem dX4_addWrite_20 : decode cX4_addWrite 20 = .ok (.aload_n 0, 1) := by decide +kernel
theorem dX4_addWrite_21 : decode cX4_addWrite 21 = .ok (.dup, 1) := by decide +kernel
theorem dX4_addWrite_22 : decode cX4_addWrite 22 = .ok (.getfield 21, 3) := by decide +kernel
theorem dX4_addWrite_25 : decode cX4_addWrite 25 = .ok (.iconst 1, 1) := by decide +kernel
theorem dX4_addWrite_26 : decode cX4_addWrite 26 = .ok (.iadd, 1) := by decide +kernel
theorem dX4_addWrite_27 : decode cX4_addWrite 27 = .ok (.putfield 21, 3) := by decide +kernel
theorem dX4_addWrite_30 : decode cX4_addWrite 30 = .ok (.aload 4, 2) := by decide +kernel
theorem dX4_addWrite_32 : decode cX4_addWrite 32 = .ok (.iconst 1, 1) := by decide +kernel
theorem dX4_addWrite_33 : decode cX4_addWrite 33 = .ok (.iload_n 3, 1) := by decide +kernel
theorem dX4_addWrite_34 : decode cX4_addWrite 34 = .ok (.aload_n 0, 1) := by decide +kernel
theorem dX4_addWrite_35 : decode cX4_addWrite 35 = .ok (.getfield 28, 3) := by decide +kernel
theorem dX4_addWrite_38 : decode cX4_addWrite 38 = .ok (.invokevirtual 41, 3) := by decide +kernel
theorem dX4_addWrite_41 : decode cX4_addWrite 41 = .ok (.aload 4, 2) := by decide +kernel
theorem dX4_addWrite_43 : decode cX4_addWrite 43 = .ok (.iload_n 1, 1) := by decide +kernel
theorem dX4_addWrite_44 : decode cX4_addWrite 44 = .ok (.putfield 35, 3) := by decide +kernel
theorem dX4_addWrite_47 : decode cX4_addWrite 47 = .ok (.aload 4, 2) := by decide +kernel
theorem dX4_addWrite_49 : decode cX4_addWrite 49 = .ok (.iload_n 2, 1) := by decide +kernel
theorem dX4_addWrite_50 : decode cX4_addWrite 50 = .ok (.putfield 38, 3) := by decide +kernel
theorem dX4_addWrite_53 : decode cX4_addWrite 53 = .ok (.return_, 1) := by decide +kernel
theorem dX4_addRead_0 : decode cX4_addRead 0 = .ok (.aload_n 0, 1) := by decide +kernel
theorem dX4_addRead_1 : decode cX4_addRead 1 = .ok (.getfield 21, 3) := by decide +kernel
theorem dX4_addRead_4 : decode cX4_addRead 4 = .ok (.bipush 14, 2) := by decide +kernel
theorem dX4_addRead_6 : decode cX4_addRead 6 = .ok (.if_icmp .ge 70, 3) := by decide +kernel
theorem dX4_addRead_9 : decode cX4_addRead 9 = .ok (.aload_n 0, 1) := by decide +kernel
theorem dX4_addRead_10 : decode cX4_addRead 10 = .ok (.getfield 25, 3) := by decide +kernel
theorem dX4_addRead_13 : decode cX4_addRead 13 = .ok (.bipush 14, 2) := by decide +kernel
theorem dX4_addRead_15 : decode cX4_addRead 15 = .ok (.if_icmp .ge 61, 3) := by decide +kernel
theorem dX4_addRead_18 : decode cX4_addRead 18 = .ok (.aload_n 0, 1) := by decide +kernel
theorem dX4_addRead_19 : decode cX4_addRead 19 = .ok (.getfield 11, 3) := by decide +kernel
theorem dX4_addRead_22 : decode cX4_addRead 22 = .ok (.aload_n 0, 1) := by decide +kernel
theorem dX4_addRead_23 : decode cX4_addRead 23 = .ok (.getfield 21, 3) := by decide +kernel
theorem dX4_addRead_26 : decode cX4_addRead 26 = .ok (.aaload, 1) := by decide +kernel
theorem dX4_addRead_27 : decode cX4_addRead 27 = .ok (.astore_n 2, 1) := by decide +kernel
theorem dX4_addRead_28 : decode cX4_addRead 28 = .ok (.aload_n 0, 1) := by decide +kernel
theorem dX4_addRead_29 : decode cX4_addRead 29 = .ok (.dup, 1) := by decide +kernel
theorem dX4_addRead_30 : decode cX4_addRead 30 = .ok (.getfield 21, 3) := by decide +kernel
theorem dX4_addRead_33 : decode cX4_addRead 33 = .ok (.iconst 1, 1) := by decide +kernel
theorem dX4_addRead_34 : decode cX4_addRead 34 = .ok (.iadd, 1) := by decide +kernel
theorem dX4_addRead_35 : decode cX4_addRead 35 = .ok (.putfield 21, 3) := by decide +kernel
theorem dX4_addRead_38 : decode cX4_addRead 38 = .ok (.aload_n 2, 1) := by decide +kernel
theorem dX4_addRead_39 : decode cX4_addRead 39 = .ok (.iconst 0, 1) := by decide +kernel
theorem dX4_addRead_40 : decode cX4_addRead 40 = .ok (.iload_n 1, 1) := by decide +kernel
theorem dX4_addRead_41 : decode cX4_addRead 41 = .ok (.aload_n 0, 1) := by decide +kernel
theorem dX4_addRead_42 : decode cX4_addRead 42 = .ok (.getfield 28, 3) := by decide +kernel
theorem dX4_addRead_45 : decode cX4_addRead 45 = .ok (.invokevirtual 41, 3) := by decide +kernel
theorem dX4_addRead_48 : decode cX4_addRead 48 = .ok (.aload_n 2, 1) := by decide +kernel
theorem dX4_addRead_49 : decode cX4_addRead 49 = .ok (.aload_n 0, 1) := by decide +kernel
theorem dX4_addRead_50 : decode cX4_addRead 50 = .ok (.getfield 28, 3) := by decide +kernel
theorem dX4_addRead_53 : decode cX4_addRead 53 = .ok (.putfield 45, 3) := by decide +kernel
theorem dX4_addRead_56 : decode cX4_addRead 56 = .ok (.aload_n 0, 1) := by decide +kernel
theorem dX4_addRead_57 : decode cX4_addRead 57 = .ok (.getfield 17, 3) := by decide +kernel
theorem dX4_addRead_60 : decode cX4_addRead 60 = .ok (.aload_n 0, 1) := by decide +kernel
theorem dX4_addRead_61 : decode cX4_addRead 61 = .ok (.getfield 25, 3) := by decide +kernel
theorem dX4_addRead_64 : decode cX4_addRead 64 = .ok (.aload_n 2, 1) := by decide +kernel
theorem dX4_addRead_65 : decode cX4_addRead 65 = .ok (.aastore, 1) := by decide +kernel
theorem dX4_addRead_66 : decode cX4_addRead 66 = .ok (.aload_n 0, 1) := by decide +kernel
theorem dX4_addRead_67 : decode cX4_addRead 67 = .ok (.dup, 1) := by decide +kernel
theorem dX4_addRead_68 : decode cX4_addRead 68 = .ok (.getfield 25, 3) := by decide +kernel
theorem dX4_addRead_71 : decode cX4_addRead 71 = .ok (.iconst 1, 1) := by decide +kernel
theorem dX4_addRead_72 : decode cX4_addRead 72 = .ok (.iadd, 1) := by decide +kernel
theorem dX4_addRead_73 : decode cX4_addRead 73 = .ok (.putfield 25, 3) := by decide +kernel
theorem dX4_addRead_76 : decode cX4_addRead 76 = .ok (.return_, 1) := by decide +kernel
theorem dX4_answerWrites_0 : decode cX4_answerWrites 0 = .ok (.aload_n 1, 1) := by decide +kernel
theorem dX4_answerWrites_1 : decode cX4_answerWrites 1 = .ok (.getfield 48, 3) := by decide +kernel
theorem dX4_answerWrites_4 : decode cX4_answerWrites 4 = .ok (.iconst 2, 1) := by decide +kernel
theorem dX4_answerWrites_5 : decode cX4_answerWrites 5 = .ok (.if_icmp .eq 4, 3) := by decide +kernel
theorem dX4_answerWrites_8 : decode cX4_answerWrites 8 = .ok (.return_, 1) := by decide +kernel
theorem dX4_answerWrites_9 : decode cX4_answerWrites 9 = .ok (.iconst 0, 1) := by decide +kernel
theorem dX4_answerWrites_10 : decode cX4_answerWrites 10 = .ok (.istore_n 2, 1) := by decide +kernel
theorem dX4_answerWrites_11 : decode cX4_answerWrites 11 = .ok (.iload_n 2, 1) := by decide +kernel
theorem dX4_answerWrites_12 : decode cX4_answerWrites 12 = .ok (.aload_n 0, 1) := by decide +kernel
theorem dX4_answerWrites_13 : decode cX4_answerWrites 13 = .ok (.getfield 21, 3) := by decide +kernel
theorem dX4_answerWrites_16 : decode cX4_answerWrites 16 = .ok (.if_icmp .ge 86, 3) := by decide +kernel
theorem dX4_answerWrites_19 : decode cX4_answerWrites 19 = .ok (.aload_n 0, 1) := by decide +kernel
theorem dX4_answerWrites_20 : decode cX4_answerWrites 20 = .ok (.getfield 11, 3) := by decide +kernel
theorem dX4_answerWrites_23 : decode cX4_answerWrites 23 = .ok (.iload_n 2, 1) := by decide +kernel
theorem dX4_answerWrites_24 : decode cX4_answerWrites 24 = .ok (.aaload, 1) := by decide +kernel
theorem dX4_answerWrites_25 : decode cX4_answerWrites 25 = .ok (.getfield 31, 3) := by decide +kernel
theorem dX4_answerWrites_28 : decode cX4_answerWrites 28 = .ok (.ifCond .eq 68, 3) := by decide +kernel
theorem dX4_answerWrites_31 : decode cX4_answerWrites 31 = .ok (.aload_n 0, 1) := by decide +kernel
theorem dX4_answerWrites_32 : decode cX4_answerWrites 32 = .ok (.getfield 11, 3) := by decide +kernel
theorem dX4_answerWrites_35 : decode cX4_answerWrites 35 = .ok (.iload_n 2, 1) := by decide +kernel
theorem dX4_answerWrites_36 : decode cX4_answerWrites 36 = .ok (.aaload, 1) := by decide +kernel
theorem dX4_answerWrites_37 : decode cX4_answerWrites 37 = .ok (.getfield 45, 3) := by decide +kernel
theorem dX4_answerWrites_40 : decode cX4_answerWrites 40 = .ok (.iconst (-1), 1) := by decide +kernel
theorem dX4_answerWrites_41 : decode cX4_answerWrites 41 = .ok (.if_icmp .ne 55, 3) := by decide +kernel
theorem dX4_answerWrites_44 : decode cX4_answerWrites 44 = .ok (.aload_n 1, 1) := by decide +kernel
theorem dX4_answerWrites_45 : decode cX4_answerWrites 45 = .ok (.getfield 53, 3) := by decide +kernel
theorem dX4_answerWrites_48 : decode cX4_answerWrites 48 = .ok (.aload_n 0, 1) := by decide +kernel
theorem dX4_answerWrites_49 : decode cX4_answerWrites 49 = .ok (.getfield 11, 3) := by decide +kernel
theorem dX4_answerWrites_52 : decode cX4_answerWrites 52 = .ok (.iload_n 2, 1) := by decide +kernel
theorem dX4_answerWrites_53 : decode cX4_answerWrites 53 = .ok (.aaload, 1) := by decide +kernel
theorem dX4_answerWrites_54 : decode cX4_answerWrites 54 = .ok (.getfield 35, 3) := by decide +kernel
theorem dX4_answerWrites_57 : decode cX4_answerWrites 57 = .ok (.aload_n 0, 1) := by decide +kernel
theorem dX4_answerWrites_58 : decode cX4_answerWrites 58 = .ok (.getfield 11, 3) := by decide +kernel
theorem dX4_answerWrites_61 : decode cX4_answerWrites 61 = .ok (.iload_n 2, 1) := by decide +kernel
theorem dX4_answerWrites_62 : decode cX4_answerWrites 62 = .ok (.aaload, 1) := by decide +kernel
theorem dX4_answerWrites_63 : decode cX4_answerWrites 63 = .ok (.getfield 38, 3) := by decide +kernel
theorem dX4_answerWrites_66 : decode cX4_answerWrites 66 = .ok (.invokevirtual 57, 3) := by decide +kernel
theorem dX4_answerWrites_69 : decode cX4_answerWrites 69 = .ok (.istore_n 3, 1) := by decide +kernel
theorem dX4_answerWrites_70 : decode cX4_answerWrites 70 = .ok (.iload_n 3, 1) := by decide +kernel
theorem dX4_answerWrites_71 : decode cX4_answerWrites 71 = .ok (.iconst 1, 1) := by decide +kernel
theorem dX4_answerWrites_72 : decode cX4_answerWrites 72 = .ok (.if_icmp .lt 24, 3) := by decide +kernel
theorem dX4_answerWrites_75 : decode cX4_answerWrites 75 = .ok (.iload_n 3, 1) := by decide +kernel
theorem dX4_answerWrites_76 : decode cX4_answerWrites 76 = .ok (.aload_n 1, 1) := by decide +kernel
theorem dX4_answerWrites_77 : decode cX4_answerWrites 77 = .ok (.getfield 63, 3) := by decide +kernel
theorem dX4_answerWrites_80 : decode cX4_answerWrites 80 = .ok (.if_icmp .gt 16, 3) := by decide +kernel
theorem dX4_answerWrites_83 : decode cX4_answerWrites 83 = .ok (.aload_n 0, 1) := by decide +kernel
theorem dX4_answerWrites_84 : decode cX4_answerWrites 84 = .ok (.getfield 11, 3) := by decide +kernel
theorem dX4_answerWrites_87 : decode cX4_answerWrites 87 = .ok (.iload_n 2, 1) := by decide +kernel
theorem dX4_answerWrites_88 : decode cX4_answerWrites 88 = .ok (.aaload, 1) := by decide +kernel
theorem dX4_answerWrites_89 : decode cX4_answerWrites 89 = .ok (.aload_n 0, 1) := by decide +kernel
theorem dX4_answerWrites_90 : decode cX4_answerWrites 90 = .ok (.getfield 28, 3) := by decide +kernel
theorem dX4_answerWrites_93 : decode cX4_answerWrites 93 = .ok (.putfield 45, 3) := by decide +kernel
theorem dX4_answerWrites_96 : decode cX4_answerWrites 96 = .ok (.iinc 2 1, 3) := by decide +kernel
theorem dX4_answerWrites_99 : decode cX4_answerWrites 99 = .ok (.goto (-88), 3) := by decide +kernel
theorem dX4_answerWrites_102 : decode cX4_answerWrites 102 = .ok (.return_, 1) := by decide +kernel
theorem dX4_hasOneOrder_0 : decode cX4_hasOneOrder 0 = .ok (.aload_n 0, 1) := by decide +kernel
theorem dX4_hasOneOrder_1 : decode cX4_hasOneOrder 1 = .ok (.iconst 0, 1) := by decide +kernel
theorem dX4_hasOneOrder_2 : decode cX4_hasOneOrder 2 = .ok (.iconst 0, 1) := by decide +kernel
theorem dX4_hasOneOrder_3 : decode cX4_hasOneOrder 3 = .ok (.iconst 0, 1) := by decide +kernel
theorem dX4_hasOneOrder_4 : decode cX4_hasOneOrder 4 = .ok (.iconst 0, 1) := by decide +kernel
theorem dX4_hasOneOrder_5 : decode cX4_hasOneOrder 5 = .ok (.invokestatic 66, 3) := by decide +kernel
theorem dX4_hasOneOrder_8 : decode cX4_hasOneOrder 8 = .ok (.ireturn, 1) := by decide +kernel
theorem dX4_canFeed_0 : decode cX4_canFeed 0 = .ok (.iload_n 1, 1) := by decide +kernel
theorem dX4_canFeed_1 : decode cX4_canFeed 1 = .ok (.aload_n 0, 1) := by decide +kernel
theorem dX4_canFeed_2 : decode cX4_canFeed 2 = .ok (.getfield 25, 3) := by decide +kernel
theorem dX4_canFeed_5 : decode cX4_canFeed 5 = .ok (.if_icmp .lt 5, 3) := by decide +kernel
theorem dX4_canFeed_8 : decode cX4_canFeed 8 = .ok (.iconst 1, 1) := by decide +kernel
theorem dX4_canFeed_9 : decode cX4_canFeed 9 = .ok (.ireturn, 1) := by decide +kernel
theorem dX4_canFeed_10 : decode cX4_canFeed 10 = .ok (.aload_n 0, 1) := by decide +kernel
theorem dX4_canFeed_11 : decode cX4_canFeed 11 = .ok (.getfield 17, 3) := by decide +kernel
theorem dX4_canFeed_14 : decode cX4_canFeed 14 = .ok (.iload_n 1, 1) := by decide +kernel
theorem dX4_canFeed_15 : decode cX4_canFeed 15 = .ok (.aaload, 1) := by decide +kernel
theorem dX4_canFeed_16 : decode cX4_canFeed 16 = .ok (.astore 5, 2) := by decide +kernel
theorem dX4_canFeed_18 : decode cX4_canFeed 18 = .ok (.iload_n 1, 1) := by decide +kernel
theorem dX4_canFeed_19 : decode cX4_canFeed 19 = .ok (.ifCond .ne 7, 3) := by decide +kernel
theorem dX4_canFeed_22 : decode cX4_canFeed 22 = .ok (.iconst 0, 1) := by decide +kernel
theorem dX4_canFeed_23 : decode cX4_canFeed 23 = .ok (.goto 14, 3) := by decide +kernel
theorem dX4_canFeed_26 : decode cX4_canFeed 26 = .ok (.aload_n 0, 1) := by decide +kernel
theorem dX4_canFeed_27 : decode cX4_canFeed 27 = .ok (.getfield 17, 3) := by decide +kernel
theorem dX4_canFeed_30 : decode cX4_canFeed 30 = .ok (.iload_n 1, 1) := by decide +kernel
theorem dX4_canFeed_31 : decode cX4_canFeed 31 = .ok (.iconst 1, 1) := by decide +kernel
theorem dX4_canFeed_32 : decode cX4_canFeed 32 = .ok (.isub, 1) := by decide +kernel
theorem dX4_canFeed_33 : decode cX4_canFeed 33 = .ok (.aaload, 1) := by decide +kernel
theorem dX4_canFeed_34 : decode cX4_canFeed 34 = .ok (.getfield 70, 3) := by decide +kernel
theorem dX4_canFeed_37 : decode cX4_canFeed 37 = .ok (.istore 6, 2) := by decide +kernel
theorem dX4_canFeed_39 : decode cX4_canFeed 39 = .ok (.aload_n 0, 1) := by decide +kernel
theorem dX4_canFeed_40 : decode cX4_canFeed 40 = .ok (.aload 5, 2) := by decide +kernel
theorem dX4_canFeed_42 : decode cX4_canFeed 42 = .ok (.getfield 70, 3) := by decide +kernel
theorem dX4_canFeed_45 : decode cX4_canFeed 45 = .ok (.invokevirtual 73, 3) := by decide +kernel
theorem dX4_canFeed_48 : decode cX4_canFeed 48 = .ok (.istore 7, 2) := by decide +kernel
theorem dX4_canFeed_50 : decode cX4_canFeed 50 = .ok (.iload_n 2, 1) := by decide +kernel
theorem dX4_canFeed_51 : decode cX4_canFeed 51 = .ok (.aload 5, 2) := by decide +kernel
theorem dX4_canFeed_53 : decode cX4_canFeed 53 = .ok (.getfield 77, 3) := by decide +kernel
theorem dX4_canFeed_56 : decode cX4_canFeed 56 = .ok (.if_icmp .ne 29, 3) := by decide +kernel
theorem dX4_canFeed_59 : decode cX4_canFeed 59 = .ok (.iload 7, 2) := by decide +kernel
theorem dX4_canFeed_61 : decode cX4_canFeed 61 = .ok (.iload 4, 2) := by decide +kernel
theorem dX4_canFeed_63 : decode cX4_canFeed 63 = .ok (.iconst (-1), 1) := by decide +kernel
theorem dX4_canFeed_64 : decode cX4_canFeed 64 = .ok (.ixor, 1) := by decide +kernel
theorem dX4_canFeed_65 : decode cX4_canFeed 65 = .ok (.iand, 1) := by decide +kernel
theorem dX4_canFeed_66 : decode cX4_canFeed 66 = .ok (.ifCond .ne 19, 3) := by decide +kernel
theorem dX4_canFeed_69 : decode cX4_canFeed 69 = .ok (.aload_n 0, 1) := by decide +kernel
theorem dX4_canFeed_70 : decode cX4_canFeed 70 = .ok (.iload_n 1, 1) := by decide +kernel
theorem dX4_canFeed_71 : decode cX4_canFeed 71 = .ok (.iconst 1, 1) := by decide +kernel
theorem dX4_canFeed_72 : decode cX4_canFeed 72 = .ok (.iadd, 1) := by decide +kernel
theorem dX4_canFeed_73 : decode cX4_canFeed 73 = .ok (.iload_n 2, 1) := by decide +kernel
theorem dX4_canFeed_74 : decode cX4_canFeed 74 = .ok (.iload_n 3, 1) := by decide +kernel
theorem dX4_canFeed_75 : decode cX4_canFeed 75 = .ok (.iload 4, 2) := by decide +kernel
theorem dX4_canFeed_77 : decode cX4_canFeed 77 = .ok (.invokestatic 66, 3) := by decide +kernel
theorem dX4_canFeed_80 : decode cX4_canFeed 80 = .ok (.ifCond .eq 5, 3) := by decide +kernel
theorem dX4_canFeed_83 : decode cX4_canFeed 83 = .ok (.iconst 1, 1) := by decide +kernel
theorem dX4_canFeed_84 : decode cX4_canFeed 84 = .ok (.ireturn, 1) := by decide +kernel
theorem dX4_canFeed_85 : decode cX4_canFeed 85 = .ok (.iconst 0, 1) := by decide +kernel
theorem dX4_canFeed_86 : decode cX4_canFeed 86 = .ok (.istore 8, 2) := by decide +kernel
theorem dX4_canFeed_88 : decode cX4_canFeed 88 = .ok (.iload 8, 2) := by decide +kernel
theorem dX4_canFeed_90 : decode cX4_canFeed 90 = .ok (.aload_n 0, 1) := by decide +kernel
theorem dX4_canFeed_91 : decode cX4_canFeed 91 = .ok (.getfield 21, 3) := by decide +kernel
theorem dX4_canFeed_94 : decode cX4_canFeed 94 = .ok (.if_icmp .ge 120, 3) := by decide +kernel
theorem dX4_canFeed_97 : decode cX4_canFeed 97 = .ok (.aload_n 0, 1) := by decide +kernel
theorem dX4_canFeed_98 : decode cX4_canFeed 98 = .ok (.getfield 11, 3) := by decide +kernel
theorem dX4_canFeed_101 : decode cX4_canFeed 101 = .ok (.iload 8, 2) := by decide +kernel
theorem dX4_canFeed_103 : decode cX4_canFeed 103 = .ok (.aaload, 1) := by decide +kernel
theorem dX4_canFeed_104 : decode cX4_canFeed 104 = .ok (.astore 9, 2) := by decide +kernel
theorem dX4_canFeed_106 : decode cX4_canFeed 106 = .ok (.aload 9, 2) := by decide +kernel
theorem dX4_canFeed_108 : decode cX4_canFeed 108 = .ok (.getfield 77, 3) := by decide +kernel
theorem dX4_canFeed_111 : decode cX4_canFeed 111 = .ok (.aload 5, 2) := by decide +kernel
theorem dX4_canFeed_113 : decode cX4_canFeed 113 = .ok (.getfield 77, 3) := by decide +kernel
theorem dX4_canFeed_116 : decode cX4_canFeed 116 = .ok (.if_icmp .ne 22, 3) := by decide +kernel
theorem dX4_canFeed_119 : decode cX4_canFeed 119 = .ok (.aload 9, 2) := by decide +kernel
theorem dX4_canFeed_121 : decode cX4_canFeed 121 = .ok (.iload 6, 2) := by decide +kernel
theorem dX4_canFeed_123 : decode cX4_canFeed 123 = .ok (.aload 5, 2) := by decide +kernel
theorem dX4_canFeed_125 : decode cX4_canFeed 125 = .ok (.getfield 70, 3) := by decide +kernel
theorem dX4_canFeed_128 : decode cX4_canFeed 128 = .ok (.invokevirtual 80, 3) := by decide +kernel
theorem dX4_canFeed_131 : decode cX4_canFeed 131 = .ok (.ifCond .eq 7, 3) := by decide +kernel
theorem dX4_canFeed_134 : decode cX4_canFeed 134 = .ok (.iconst 1, 1) := by decide +kernel
theorem dX4_canFeed_135 : decode cX4_canFeed 135 = .ok (.goto 4, 3) := by decide +kernel
theorem dX4_canFeed_138 : decode cX4_canFeed 138 = .ok (.iconst 0, 1) := by decide +kernel
theorem dX4_canFeed_139 : decode cX4_canFeed 139 = .ok (.istore 10, 2) := by decide +kernel
theorem dX4_canFeed_141 : decode cX4_canFeed 141 = .ok (.iload 10, 2) := by decide +kernel
theorem dX4_canFeed_143 : decode cX4_canFeed 143 = .ok (.ifCond .eq 65, 3) := by decide +kernel
theorem dX4_canFeed_146 : decode cX4_canFeed 146 = .ok (.iload_n 3, 1) := by decide +kernel
theorem dX4_canFeed_147 : decode cX4_canFeed 147 = .ok (.iload 8, 2) := by decide +kernel
theorem dX4_canFeed_149 : decode cX4_canFeed 149 = .ok (.ishr, 1) := by decide +kernel
theorem dX4_canFeed_150 : decode cX4_canFeed 150 = .ok (.iconst 1, 1) := by decide +kernel
theorem dX4_canFeed_151 : decode cX4_canFeed 151 = .ok (.iand, 1) := by decide +kernel
theorem dX4_canFeed_152 : decode cX4_canFeed 152 = .ok (.ifCond .ne 56, 3) := by decide +kernel
theorem dX4_canFeed_155 : decode cX4_canFeed 155 = .ok (.iload 4, 2) := by decide +kernel
theorem dX4_canFeed_157 : decode cX4_canFeed 157 = .ok (.aload_n 0, 1) := by decide +kernel
theorem dX4_canFeed_158 : decode cX4_canFeed 158 = .ok (.aload 9, 2) := by decide +kernel
theorem dX4_canFeed_160 : decode cX4_canFeed 160 = .ok (.iload 6, 2) := by decide +kernel
theorem dX4_canFeed_162 : decode cX4_canFeed 162 = .ok (.aload 5, 2) := by decide +kernel
theorem dX4_canFeed_164 : decode cX4_canFeed 164 = .ok (.getfield 70, 3) := by decide +kernel
theorem dX4_canFeed_167 : decode cX4_canFeed 167 = .ok (.invokevirtual 84, 3) := by decide +kernel
theorem dX4_canFeed_170 : decode cX4_canFeed 170 = .ok (.ior, 1) := by decide +kernel
theorem dX4_canFeed_171 : decode cX4_canFeed 171 = .ok (.istore 11, 2) := by decide +kernel
theorem dX4_canFeed_173 : decode cX4_canFeed 173 = .ok (.iload 7, 2) := by decide +kernel
theorem dX4_canFeed_175 : decode cX4_canFeed 175 = .ok (.iload 11, 2) := by decide +kernel
theorem dX4_canFeed_177 : decode cX4_canFeed 177 = .ok (.iconst (-1), 1) := by decide +kernel
theorem dX4_canFeed_178 : decode cX4_canFeed 178 = .ok (.ixor, 1) := by decide +kernel
theorem dX4_canFeed_179 : decode cX4_canFeed 179 = .ok (.iand, 1) := by decide +kernel
theorem dX4_canFeed_180 : decode cX4_canFeed 180 = .ok (.ifCond .ne 28, 3) := by decide +kernel
theorem dX4_canFeed_183 : decode cX4_canFeed 183 = .ok (.aload_n 0, 1) := by decide +kernel
theorem dX4_canFeed_184 : decode cX4_canFeed 184 = .ok (.iload_n 1, 1) := by decide +kernel
theorem dX4_canFeed_185 : decode cX4_canFeed 185 = .ok (.iconst 1, 1) := by decide +kernel
theorem dX4_canFeed_186 : decode cX4_canFeed 186 = .ok (.iadd, 1) := by decide +kernel
theorem dX4_canFeed_187 : decode cX4_canFeed 187 = .ok (.aload 5, 2) := by decide +kernel
theorem dX4_canFeed_189 : decode cX4_canFeed 189 = .ok (.getfield 77, 3) := by decide +kernel
theorem dX4_canFeed_192 : decode cX4_canFeed 192 = .ok (.iload_n 3, 1) := by decide +kernel
theorem dX4_canFeed_193 : decode cX4_canFeed 193 = .ok (.iconst 1, 1) := by decide +kernel
theorem dX4_canFeed_194 : decode cX4_canFeed 194 = .ok (.iload 8, 2) := by decide +kernel
theorem dX4_canFeed_196 : decode cX4_canFeed 196 = .ok (.ishl, 1) := by decide +kernel
theorem dX4_canFeed_197 : decode cX4_canFeed 197 = .ok (.ior, 1) := by decide +kernel
theorem dX4_canFeed_198 : decode cX4_canFeed 198 = .ok (.iload 11, 2) := by decide +kernel
theorem dX4_canFeed_200 : decode cX4_canFeed 200 = .ok (.invokestatic 66, 3) := by decide +kernel
theorem dX4_canFeed_203 : decode cX4_canFeed 203 = .ok (.ifCond .eq 5, 3) := by decide +kernel
theorem dX4_canFeed_206 : decode cX4_canFeed 206 = .ok (.iconst 1, 1) := by decide +kernel
theorem dX4_canFeed_207 : decode cX4_canFeed 207 = .ok (.ireturn, 1) := by decide +kernel
theorem dX4_canFeed_208 : decode cX4_canFeed 208 = .ok (.iinc 8 1, 3) := by decide +kernel
theorem dX4_canFeed_211 : decode cX4_canFeed 211 = .ok (.goto (-123), 3) := by decide +kernel
theorem dX4_canFeed_214 : decode cX4_canFeed 214 = .ok (.iconst 0, 1) := by decide +kernel
theorem dX4_canFeed_215 : decode cX4_canFeed 215 = .ok (.ireturn, 1) := by decide +kernel
theorem dX4_writesDueAhead_0 : decode cX4_writesDueAhead 0 = .ok (.iconst 0, 1) := by decide +kernel
theorem dX4_writesDueAhead_1 : decode cX4_writesDueAhead 1 = .ok (.istore_n 2, 1) := by decide +kernel
theorem dX4_writesDueAhead_2 : decode cX4_writesDueAhead 2 = .ok (.iconst 0, 1) := by decide +kernel
theorem dX4_writesDueAhead_3 : decode cX4_writesDueAhead 3 = .ok (.istore_n 3, 1) := by decide +kernel
theorem dX4_writesDueAhead_4 : decode cX4_writesDueAhead 4 = .ok (.iload_n 3, 1) := by decide +kernel
theorem dX4_writesDueAhead_5 : decode cX4_writesDueAhead 5 = .ok (.aload_n 0, 1) := by decide +kernel
theorem dX4_writesDueAhead_6 : decode cX4_writesDueAhead 6 = .ok (.getfield 21, 3) := by decide +kernel
theorem dX4_writesDueAhead_9 : decode cX4_writesDueAhead 9 = .ok (.if_icmp .ge 40, 3) := by decide +kernel
theorem dX4_writesDueAhead_12 : decode cX4_writesDueAhead 12 = .ok (.aload_n 0, 1) := by decide +kernel
theorem dX4_writesDueAhead_13 : decode cX4_writesDueAhead 13 = .ok (.getfield 11, 3) := by decide +kernel
theorem dX4_writesDueAhead_16 : decode cX4_writesDueAhead 16 = .ok (.iload_n 3, 1) := by decide +kernel
theorem dX4_writesDueAhead_17 : decode cX4_writesDueAhead 17 = .ok (.aaload, 1) := by decide +kernel
theorem dX4_writesDueAhead_18 : decode cX4_writesDueAhead 18 = .ok (.getfield 31, 3) := by decide +kernel
theorem dX4_writesDueAhead_21 : decode cX4_writesDueAhead 21 = .ok (.ifCond .eq 22, 3) := by decide +kernel
theorem dX4_writesDueAhead_24 : decode cX4_writesDueAhead 24 = .ok (.aload_n 0, 1) := by decide +kernel
theorem dX4_writesDueAhead_25 : decode cX4_writesDueAhead 25 = .ok (.getfield 11, 3) := by decide +kernel
theorem dX4_writesDueAhead_28 : decode cX4_writesDueAhead 28 = .ok (.iload_n 3, 1) := by decide +kernel
theorem dX4_writesDueAhead_29 : decode cX4_writesDueAhead 29 = .ok (.aaload, 1) := by decide +kernel
theorem dX4_writesDueAhead_30 : decode cX4_writesDueAhead 30 = .ok (.iload_n 1, 1) := by decide +kernel
theorem dX4_writesDueAhead_31 : decode cX4_writesDueAhead 31 = .ok (.invokevirtual 88, 3) := by decide +kernel
theorem dX4_writesDueAhead_34 : decode cX4_writesDueAhead 34 = .ok (.ifCond .eq 9, 3) := by decide +kernel
theorem dX4_writesDueAhead_37 : decode cX4_writesDueAhead 37 = .ok (.iload_n 2, 1) := by decide +kernel
theorem dX4_writesDueAhead_38 : decode cX4_writesDueAhead 38 = .ok (.iconst 1, 1) := by decide +kernel
theorem dX4_writesDueAhead_39 : decode cX4_writesDueAhead 39 = .ok (.iload_n 3, 1) := by decide +kernel
theorem dX4_writesDueAhead_40 : decode cX4_writesDueAhead 40 = .ok (.ishl, 1) := by decide +kernel
theorem dX4_writesDueAhead_41 : decode cX4_writesDueAhead 41 = .ok (.ior, 1) := by decide +kernel
theorem dX4_writesDueAhead_42 : decode cX4_writesDueAhead 42 = .ok (.istore_n 2, 1) := by decide +kernel
theorem dX4_writesDueAhead_43 : decode cX4_writesDueAhead 43 = .ok (.iinc 3 1, 3) := by decide +kernel
theorem dX4_writesDueAhead_46 : decode cX4_writesDueAhead 46 = .ok (.goto (-42), 3) := by decide +kernel
theorem dX4_writesDueAhead_49 : decode cX4_writesDueAhead 49 = .ok (.iload_n 2, 1) := by decide +kernel
theorem dX4_writesDueAhead_50 : decode cX4_writesDueAhead 50 = .ok (.ireturn, 1) := by decide +kernel
theorem dX4_writesAheadOf_0 : decode cX4_writesAheadOf 0 = .ok (.iconst 0, 1) := by decide +kernel
theorem dX4_writesAheadOf_1 : decode cX4_writesAheadOf 1 = .ok (.istore 4, 2) := by decide +kernel
theorem dX4_writesAheadOf_3 : decode cX4_writesAheadOf 3 = .ok (.iconst 0, 1) := by decide +kernel
theorem dX4_writesAheadOf_4 : decode cX4_writesAheadOf 4 = .ok (.istore 5, 2) := by decide +kernel
theorem dX4_writesAheadOf_6 : decode cX4_writesAheadOf 6 = .ok (.iload 5, 2) := by decide +kernel
theorem dX4_writesAheadOf_8 : decode cX4_writesAheadOf 8 = .ok (.aload_n 0, 1) := by decide +kernel
theorem dX4_writesAheadOf_9 : decode cX4_writesAheadOf 9 = .ok (.getfield 21, 3) := by decide +kernel
theorem dX4_writesAheadOf_12 : decode cX4_writesAheadOf 12 = .ok (.if_icmp .ge 50, 3) := by decide +kernel
theorem dX4_writesAheadOf_15 : decode cX4_writesAheadOf 15 = .ok (.aload_n 0, 1) := by decide +kernel
theorem dX4_writesAheadOf_16 : decode cX4_writesAheadOf 16 = .ok (.getfield 11, 3) := by decide +kernel
theorem dX4_writesAheadOf_19 : decode cX4_writesAheadOf 19 = .ok (.iload 5, 2) := by decide +kernel
theorem dX4_writesAheadOf_21 : decode cX4_writesAheadOf 21 = .ok (.aaload, 1) := by decide +kernel
theorem dX4_writesAheadOf_22 : decode cX4_writesAheadOf 22 = .ok (.iload_n 2, 1) := by decide +kernel
theorem dX4_writesAheadOf_23 : decode cX4_writesAheadOf 23 = .ok (.iload_n 3, 1) := by decide +kernel
theorem dX4_writesAheadOf_24 : decode cX4_writesAheadOf 24 = .ok (.invokevirtual 80, 3) := by decide +kernel
theorem dX4_writesAheadOf_27 : decode cX4_writesAheadOf 27 = .ok (.ifCond .eq 29, 3) := by decide +kernel
theorem dX4_writesAheadOf_30 : decode cX4_writesAheadOf 30 = .ok (.aload_n 1, 1) := by decide +kernel
theorem dX4_writesAheadOf_31 : decode cX4_writesAheadOf 31 = .ok (.aload_n 0, 1) := by decide +kernel
theorem dX4_writesAheadOf_32 : decode cX4_writesAheadOf 32 = .ok (.getfield 11, 3) := by decide +kernel
theorem dX4_writesAheadOf_35 : decode cX4_writesAheadOf 35 = .ok (.iload 5, 2) := by decide +kernel
theorem dX4_writesAheadOf_37 : decode cX4_writesAheadOf 37 = .ok (.aaload, 1) := by decide +kernel
theorem dX4_writesAheadOf_38 : decode cX4_writesAheadOf 38 = .ok (.getfield 70, 3) := by decide +kernel
theorem dX4_writesAheadOf_41 : decode cX4_writesAheadOf 41 = .ok (.invokevirtual 88, 3) := by decide +kernel
theorem dX4_writesAheadOf_44 : decode cX4_writesAheadOf 44 = .ok (.ifCond .ne 12, 3) := by decide +kernel
theorem dX4_writesAheadOf_47 : decode cX4_writesAheadOf 47 = .ok (.iload 4, 2) := by decide +kernel
theorem dX4_writesAheadOf_49 : decode cX4_writesAheadOf 49 = .ok (.iconst 1, 1) := by decide +kernel
theorem dX4_writesAheadOf_50 : decode cX4_writesAheadOf 50 = .ok (.iload 5, 2) := by decide +kernel
theorem dX4_writesAheadOf_52 : decode cX4_writesAheadOf 52 = .ok (.ishl, 1) := by decide +kernel
theorem dX4_writesAheadOf_53 : decode cX4_writesAheadOf 53 = .ok (.ior, 1) := by decide +kernel
theorem dX4_writesAheadOf_54 : decode cX4_writesAheadOf 54 = .ok (.istore 4, 2) := by decide +kernel
theorem dX4_writesAheadOf_56 : decode cX4_writesAheadOf 56 = .ok (.iinc 5 1, 3) := by decide +kernel
theorem dX4_writesAheadOf_59 : decode cX4_writesAheadOf 59 = .ok (.goto (-53), 3) := by decide +kernel
theorem dX4_writesAheadOf_62 : decode cX4_writesAheadOf 62 = .ok (.iload 4, 2) := by decide +kernel
theorem dX4_writesAheadOf_64 : decode cX4_writesAheadOf 64 = .ok (.ireturn, 1) := by decide +kernel
theorem dX5_init_0 : decode cX5_init 0 = .ok (.aload_n 0, 1) := by decide +kernel
theorem dX5_init_1 : decode cX5_init 1 = .ok (.invokespecial 3, 3) := by decide +kernel
theorem dX5_init_4 : decode cX5_init 4 = .ok (.aload_n 0, 1) := by decide +kernel
theorem dX5_init_5 : decode cX5_init 5 = .ok (.iconst 5, 1) := by decide +kernel
theorem dX5_init_6 : decode cX5_init 6 = .ok (.newarray .int, 2) := by decide +kernel
theorem dX5_init_8 : decode cX5_init 8 = .ok (.putfield 9, 3) := by decide +kernel
theorem dX5_init_11 : decode cX5_init 11 = .ok (.aload_n 0, 1) := by decide +kernel
theorem dX5_init_12 : decode cX5_init 12 = .ok (.iconst 5, 1) := by decide +kernel
theorem dX5_init_13 : decode cX5_init 13 = .ok (.newarray .int, 2) := by decide +kernel
theorem dX5_init_15 : decode cX5_init 15 = .ok (.putfield 15, 3) := by decide +kernel
theorem dX5_init_18 : decode cX5_init 18 = .ok (.aload_n 0, 1) := by decide +kernel
theorem dX5_init_19 : decode cX5_init 19 = .ok (.iconst 5, 1) := by decide +kernel
theorem dX5_init_20 : decode cX5_init 20 = .ok (.newarray .float, 2) := by decide +kernel
theorem dX5_init_22 : decode cX5_init 22 = .ok (.putfield 18, 3) := by decide +kernel
theorem dX5_init_25 : decode cX5_init 25 = .ok (.return_, 1) := by decide +kernel
theorem dX5_start_0 : decode cX5_start 0 = .ok (.iconst 0, 1) := by decide +kernel
theorem dX5_start_1 : decode cX5_start 1 = .ok (.istore_n 2, 1) := by decide +kernel
theorem dX5_start_2 : decode cX5_start 2 = .ok (.iload_n 2, 1) := by decide +kernel
theorem dX5_start_3 : decode cX5_start 3 = .ok (.iconst 5, 1) := by decide +kernel
theorem dX5_start_4 : decode cX5_start 4 = .ok (.if_icmp .ge 30, 3) := by decide +kernel
theorem dX5_start_7 : decode cX5_start 7 = .ok (.aload_n 0, 1) := by decide +kernel
theorem dX5_start_8 : decode cX5_start 8 = .ok (.getfield 9, 3) := by decide +kernel
theorem dX5_start_11 : decode cX5_start 11 = .ok (.iload_n 2, 1) := by decide +kernel
theorem dX5_start_12 : decode cX5_start 12 = .ok (.iload_n 1, 1) := by decide +kernel
theorem dX5_start_13 : decode cX5_start 13 = .ok (.iastore, 1) := by decide +kernel
theorem dX5_start_14 : decode cX5_start 14 = .ok (.aload_n 0, 1) := by decide +kernel
theorem dX5_start_15 : decode cX5_start 15 = .ok (.getfield 15, 3) := by decide +kernel
theorem dX5_start_18 : decode cX5_start 18 = .ok (.iload_n 2, 1) := by decide +kernel
theorem dX5_start_19 : decode cX5_start 19 = .ok (.iconst 0, 1) := by decide +kernel
theorem dX5_start_20 : decode cX5_start 20 = .ok (.iastore, 1) := by decide +kernel
theorem dX5_start_21 : decode cX5_start 21 = .ok (.aload_n 0, 1) := by decide +kernel
theorem dX5_start_22 : decode cX5_start 22 = .ok (.getfield 18, 3) := by decide +kernel
theorem dX5_start_25 : decode cX5_start 25 = .ok (.iload_n 2, 1) := by decide +kernel
theorem dX5_start_26 : decode cX5_start 26 = .ok (.fconst 0, 1) := by decide +kernel
theorem dX5_start_27 : decode cX5_start 27 = .ok (.fastore, 1) := by decide +kernel
theorem dX5_start_28 : decode cX5_start 28 = .ok (.iinc 2 1, 3) := by decide +kernel
theorem dX5_start_31 : decode cX5_start 31 = .ok (.goto (-29), 3) := by decide +kernel
theorem dX5_start_34 : decode cX5_start 34 = .ok (.aload_n 0, 1) := by decide +kernel
theorem dX5_start_35 : decode cX5_start 35 = .ok (.iconst 0, 1) := by decide +kernel
theorem dX5_start_36 : decode cX5_start 36 = .ok (.putfield 22, 3) := by decide +kernel
theorem dX5_start_39 : decode cX5_start 39 = .ok (.aload_n 0, 1) := by decide +kernel
theorem dX5_start_40 : decode cX5_start 40 = .ok (.iconst 0, 1) := by decide +kernel
theorem dX5_start_41 : decode cX5_start 41 = .ok (.putfield 26, 3) := by decide +kernel
theorem dX5_start_44 : decode cX5_start 44 = .ok (.return_, 1) := by decide +kernel
theorem dX5_learnSame_0 : decode cX5_learnSame 0 = .ok (.iload_n 2, 1) := by decide +kernel
theorem dX5_learnSame_1 : decode cX5_learnSame 1 = .ok (.aload_n 0, 1) := by decide +kernel
theorem dX5_learnSame_2 : decode cX5_learnSame 2 = .ok (.getfield 15, 3) := by decide +kernel
theorem dX5_learnSame_5 : decode cX5_learnSame 5 = .ok (.iload_n 1, 1) := by decide +kernel
theorem dX5_learnSame_6 : decode cX5_learnSame 6 = .ok (.iaload, 1) := by decide +kernel
theorem dX5_learnSame_7 : decode cX5_learnSame 7 = .ok (.if_icmp .le 17, 3) := by decide +kernel
theorem dX5_learnSame_10 : decode cX5_learnSame 10 = .ok (.aload_n 0, 1) := by decide +kernel
theorem dX5_learnSame_11 : decode cX5_learnSame 11 = .ok (.getfield 15, 3) := by decide +kernel
theorem dX5_learnSame_14 : decode cX5_learnSame 14 = .ok (.iload_n 1, 1) := by decide +kernel
theorem dX5_learnSame_15 : decode cX5_learnSame 15 = .ok (.iload_n 2, 1) := by decide +kernel
theorem dX5_learnSame_16 : decode cX5_learnSame 16 = .ok (.iastore, 1) := by decide +kernel
theorem dX5_learnSame_17 : decode cX5_learnSame 17 = .ok (.aload_n 0, 1) := by decide +kernel
theorem dX5_learnSame_18 : decode cX5_learnSame 18 = .ok (.getfield 9, 3) := by decide +kernel
theorem dX5_learnSame_21 : decode cX5_learnSame 21 = .ok (.iload_n 1, 1) := by decide +kernel
theorem dX5_learnSame_22 : decode cX5_learnSame 22 = .ok (.iload_n 2, 1) := by decide +kernel
theorem dX5_learnSame_23 : decode cX5_learnSame 23 = .ok (.iastore, 1) := by decide +kernel
theorem dX5_learnSame_24 : decode cX5_learnSame 24 = .ok (.return_, 1) := by decide +kernel
theorem dX5_learnClock_0 : decode cX5_learnClock 0 = .ok (.fload_n 2, 1) := by decide +kernel
theorem dX5_learnClock_1 : decode cX5_learnClock 1 = .ok (.aload_n 0, 1) := by decide +kernel
theorem dX5_learnClock_2 : decode cX5_learnClock 2 = .ok (.getfield 18, 3) := by decide +kernel
theorem dX5_learnClock_5 : decode cX5_learnClock 5 = .ok (.iload_n 1, 1) := by decide +kernel
theorem dX5_learnClock_6 : decode cX5_learnClock 6 = .ok (.faload, 1) := by decide +kernel
theorem dX5_learnClock_7 : decode cX5_learnClock 7 = .ok (.fcmp .l, 1) := by decide +kernel
theorem dX5_learnClock_8 : decode cX5_learnClock 8 = .ok (.ifCond .le 10, 3) := by decide +kernel
theorem dX5_learnClock_11 : decode cX5_learnClock 11 = .ok (.aload_n 0, 1) := by decide +kernel
theorem dX5_learnClock_12 : decode cX5_learnClock 12 = .ok (.getfield 18, 3) := by decide +kernel
theorem dX5_learnClock_15 : decode cX5_learnClock 15 = .ok (.iload_n 1, 1) := by decide +kernel
theorem dX5_learnClock_16 : decode cX5_learnClock 16 = .ok (.fload_n 2, 1) := by decide +kernel
theorem dX5_learnClock_17 : decode cX5_learnClock 17 = .ok (.fastore, 1) := by decide +kernel
theorem dX5_learnClock_18 : decode cX5_learnClock 18 = .ok (.aload_n 0, 1) := by decide +kernel
theorem dX5_learnClock_19 : decode cX5_learnClock 19 = .ok (.dup, 1) := by decide +kernel
theorem dX5_learnClock_20 : decode cX5_learnClock 20 = .ok (.getfield 22, 3) := by decide +kernel
theorem dX5_learnClock_23 : decode cX5_learnClock 23 = .ok (.iconst 1, 1) := by decide +kernel
theorem dX5_learnClock_24 : decode cX5_learnClock 24 = .ok (.iload_n 1, 1) := by decide +kernel
theorem dX5_learnClock_25 : decode cX5_learnClock 25 = .ok (.ishl, 1) := by decide +kernel
theorem dX5_learnClock_26 : decode cX5_learnClock 26 = .ok (.ior, 1) := by decide +kernel
theorem dX5_learnClock_27 : decode cX5_learnClock 27 = .ok (.putfield 22, 3) := by decide +kernel
theorem dX5_learnClock_30 : decode cX5_learnClock 30 = .ok (.return_, 1) := by decide +kernel
theorem dX5_knowing_0 : decode cX5_knowing 0 = .ok (.iconst 0, 1) := by decide +kernel
theorem dX5_knowing_1 : decode cX5_knowing 1 = .ok (.istore_n 2, 1) := by decide +kernel
theorem dX5_knowing_2 : decode cX5_knowing 2 = .ok (.iconst 0, 1) := by decide +kernel
theorem dX5_knowing_3 : decode cX5_knowing 3 = .ok (.istore_n 3, 1) := by decide +kernel
theorem dX5_knowing_4 : decode cX5_knowing 4 = .ok (.iload_n 3, 1) := by decide +kernel
theorem dX5_knowing_5 : decode cX5_knowing 5 = .ok (.iconst 5, 1) := by decide +kernel
theorem dX5_knowing_6 : decode cX5_knowing 6 = .ok (.if_icmp .ge 22, 3) := by decide +kernel
theorem dX5_knowing_9 : decode cX5_knowing 9 = .ok (.aload_n 0, 1) := by decide +kernel
theorem dX5_knowing_10 : decode cX5_knowing 10 = .ok (.getfield 15, 3) := by decide +kernel
theorem dX5_knowing_13 : decode cX5_knowing 13 = .ok (.iload_n 3, 1) := by decide +kernel
theorem dX5_knowing_14 : decode cX5_knowing 14 = .ok (.iaload, 1) := by decide +kernel
theorem dX5_knowing_15 : decode cX5_knowing 15 = .ok (.iload_n 1, 1) := by decide +kernel
theorem dX5_knowing_16 : decode cX5_knowing 16 = .ok (.if_icmp .lt 6, 3) := by decide +kernel
theorem dX5_knowing_19 : decode cX5_knowing 19 = .ok (.iinc 2 1, 3) := by decide +kernel
theorem dX5_knowing_22 : decode cX5_knowing 22 = .ok (.iinc 3 1, 3) := by decide +kernel
theorem dX5_knowing_25 : decode cX5_knowing 25 = .ok (.goto (-21), 3) := by decide +kernel
theorem dX5_knowing_28 : decode cX5_knowing 28 = .ok (.iload_n 2, 1) := by decide +kernel
theorem dX5_knowing_29 : decode cX5_knowing 29 = .ok (.ireturn, 1) := by decide +kernel
theorem dX5_clockOf_0 : decode cX5_clockOf 0 = .ok (.fconst 0, 1) := by decide +kernel
theorem dX5_clockOf_1 : decode cX5_clockOf 1 = .ok (.fstore_n 2, 1) := by decide +kernel
theorem dX5_clockOf_2 : decode cX5_clockOf 2 = .ok (.iconst 0, 1) := by decide +kernel
theorem dX5_clockOf_3 : decode cX5_clockOf 3 = .ok (.istore_n 3, 1) := by decide +kernel
theorem dX5_clockOf_4 : decode cX5_clockOf 4 = .ok (.iload_n 3, 1) := by decide +kernel
theorem dX5_clockOf_5 : decode cX5_clockOf 5 = .ok (.iconst 5, 1) := by decide +kernel
theorem dX5_clockOf_6 : decode cX5_clockOf 6 = .ok (.if_icmp .ge 49, 3) := by decide +kernel
theorem dX5_clockOf_9 : decode cX5_clockOf 9 = .ok (.aload_n 0, 1) := by decide +kernel
theorem dX5_clockOf_10 : decode cX5_clockOf 10 = .ok (.iload_n 3, 1) := by decide +kernel
theorem dX5_clockOf_11 : decode cX5_clockOf 11 = .ok (.invokevirtual 30, 3) := by decide +kernel
theorem dX5_clockOf_14 : decode cX5_clockOf 14 = .ok (.ifCond .eq 35, 3) := by decide +kernel
theorem dX5_clockOf_17 : decode cX5_clockOf 17 = .ok (.aload_n 0, 1) := by decide +kernel
theorem dX5_clockOf_18 : decode cX5_clockOf 18 = .ok (.getfield 18, 3) := by decide +kernel
theorem dX5_clockOf_21 : decode cX5_clockOf 21 = .ok (.iload_n 3, 1) := by decide +kernel
theorem dX5_clockOf_22 : decode cX5_clockOf 22 = .ok (.faload, 1) := by decide +kernel
theorem dX5_clockOf_23 : decode cX5_clockOf 23 = .ok (.fload_n 2, 1) := by decide +kernel
theorem dX5_clockOf_24 : decode cX5_clockOf 24 = .ok (.fcmp .l, 1) := by decide +kernel
theorem dX5_clockOf_25 : decode cX5_clockOf 25 = .ok (.ifCond .le 24, 3) := by decide +kernel
theorem dX5_clockOf_28 : decode cX5_clockOf 28 = .ok (.aload_n 0, 1) := by decide +kernel
theorem dX5_clockOf_29 : decode cX5_clockOf 29 = .ok (.aload_n 0, 1) := by decide +kernel
theorem dX5_clockOf_30 : decode cX5_clockOf 30 = .ok (.getfield 18, 3) := by decide +kernel
theorem dX5_clockOf_33 : decode cX5_clockOf 33 = .ok (.iload_n 3, 1) := by decide +kernel
theorem dX5_clockOf_34 : decode cX5_clockOf 34 = .ok (.faload, 1) := by decide +kernel
theorem dX5_clockOf_35 : decode cX5_clockOf 35 = .ok (.invokevirtual 34, 3) := by decide +kernel
theorem dX5_clockOf_38 : decode cX5_clockOf 38 = .ok (.iload_n 1, 1) := by decide +kernel
theorem dX5_clockOf_39 : decode cX5_clockOf 39 = .ok (.if_icmp .lt 10, 3) := by decide +kernel
theorem dX5_clockOf_42 : decode cX5_clockOf 42 = .ok (.aload_n 0, 1) := by decide +kernel
theorem dX5_clockOf_43 : decode cX5_clockOf 43 = .ok (.getfield 18, 3) := by decide +kernel
theorem dX5_clockOf_46 : decode cX5_clockOf 46 = .ok (.iload_n 3, 1) := by decide +kernel
theorem dX5_clockOf_47 : decode cX5_clockOf 47 = .ok (.faload, 1) := by decide +kernel
theorem dX5_clockOf_48 : decode cX5_clockOf 48 = .ok (.fstore_n 2, 1) := by decide +kernel
theorem dX5_clockOf_49 : decode cX5_clockOf 49 = .ok (.iinc 3 1, 3) := by decide +kernel
theorem dX5_clockOf_52 : decode cX5_clockOf 52 = .ok (.goto (-48), 3) := by decide +kernel
theorem dX5_clockOf_55 : decode cX5_clockOf 55 = .ok (.fload_n 2, 1) := by decide +kernel
theorem dX5_clockOf_56 : decode cX5_clockOf 56 = .ok (.freturn, 1) := by decide +kernel
theorem dX5_answeredSince_0 : decode cX5_answeredSince 0 = .ok (.iconst 0, 1) := by decide +kernel
theorem dX5_answeredSince_1 : decode cX5_answeredSince 1 = .ok (.istore_n 2, 1) := by decide +kernel
theorem dX5_answeredSince_2 : decode cX5_answeredSince 2 = .ok (.iconst 0, 1) := by decide +kernel
theorem dX5_answeredSince_3 : decode cX5_answeredSince 3 = .ok (.istore_n 3, 1) := by decide +kernel
theorem dX5_answeredSince_4 : decode cX5_answeredSince 4 = .ok (.iload_n 3, 1) := by decide +kernel
theorem dX5_answeredSince_5 : decode cX5_answeredSince 5 = .ok (.iconst 5, 1) := by decide +kernel
theorem dX5_answeredSince_6 : decode cX5_answeredSince 6 = .ok (.if_icmp .ge 31, 3) := by decide +kernel
theorem dX5_answeredSince_9 : decode cX5_answeredSince 9 = .ok (.aload_n 0, 1) := by decide +kernel
theorem dX5_answeredSince_10 : decode cX5_answeredSince 10 = .ok (.iload_n 3, 1) := by decide +kernel
theorem dX5_answeredSince_11 : decode cX5_answeredSince 11 = .ok (.invokevirtual 30, 3) := by decide +kernel
theorem dX5_answeredSince_14 : decode cX5_answeredSince 14 = .ok (.ifCond .eq 17, 3) := by decide +kernel
theorem dX5_answeredSince_17 : decode cX5_answeredSince 17 = .ok (.aload_n 0, 1) := by decide +kernel
theorem dX5_answeredSince_18 : decode cX5_answeredSince 18 = .ok (.getfield 18, 3) := by decide +kernel
theorem dX5_answeredSince_21 : decode cX5_answeredSince 21 = .ok (.iload_n 3, 1) := by decide +kernel
theorem dX5_answeredSince_22 : decode cX5_answeredSince 22 = .ok (.faload, 1) := by decide +kernel
theorem dX5_answeredSince_23 : decode cX5_answeredSince 23 = .ok (.fload_n 1, 1) := by decide +kernel
theorem dX5_answeredSince_24 : decode cX5_answeredSince 24 = .ok (.fcmp .l, 1) := by decide +kernel
theorem dX5_answeredSince_25 : decode cX5_answeredSince 25 = .ok (.ifCond .lt 6, 3) := by decide +kernel
theorem dX5_answeredSince_28 : decode cX5_answeredSince 28 = .ok (.iinc 2 1, 3) := by decide +kernel
theorem dX5_answeredSince_31 : decode cX5_answeredSince 31 = .ok (.iinc 3 1, 3) := by decide +kernel
theorem dX5_answeredSince_34 : decode cX5_answeredSince 34 = .ok (.goto (-30), 3) := by decide +kernel
theorem dX5_answeredSince_37 : decode cX5_answeredSince 37 = .ok (.iload_n 2, 1) := by decide +kernel
theorem dX5_answeredSince_38 : decode cX5_answeredSince 38 = .ok (.ireturn, 1) := by decide +kernel
theorem dX5_hasAnswered_0 : decode cX5_hasAnswered 0 = .ok (.aload_n 0, 1) := by decide +kernel
theorem dX5_hasAnswered_1 : decode cX5_hasAnswered 1 = .ok (.getfield 22, 3) := by decide +kernel
theorem dX5_hasAnswered_4 : decode cX5_hasAnswered 4 = .ok (.iload_n 1, 1) := by decide +kernel
theorem dX5_hasAnswered_5 : decode cX5_hasAnswered 5 = .ok (.ishr, 1) := by decide +kernel
theorem dX5_hasAnswered_6 : decode cX5_hasAnswered 6 = .ok (.iconst 1, 1) := by decide +kernel
theorem dX5_hasAnswered_7 : decode cX5_hasAnswered 7 = .ok (.iand, 1) := by decide +kernel
theorem dX5_hasAnswered_8 : decode cX5_hasAnswered 8 = .ok (.iconst 1, 1) := by decide +kernel
theorem dX5_hasAnswered_9 : decode cX5_hasAnswered 9 = .ok (.if_icmp .ne 7, 3) := by decide +kernel
theorem dX5_hasAnswered_12 : decode cX5_hasAnswered 12 = .ok (.iconst 1, 1) := by decide +kernel
theorem dX5_hasAnswered_13 : decode cX5_hasAnswered 13 = .ok (.goto 4, 3) := by decide +kernel
theorem dX5_hasAnswered_16 : decode cX5_hasAnswered 16 = .ok (.iconst 0, 1) := by decide +kernel
theorem dX5_hasAnswered_17 : decode cX5_hasAnswered 17 = .ok (.ireturn, 1) := by decide +kernel
theorem dX6_init_0 : decode cX6_init 0 = .ok (.aload_n 0, 1) := by decide +kernel
theorem dX6_init_1 : decode cX6_init 1 = .ok (.invokespecial 3, 3) := by decide +kernel
theorem dX6_init_4 : decode cX6_init 4 = .ok (.aload_n 0, 1) := by decide +kernel
theorem dX6_init_5 : decode cX6_init 5 = .ok (.aload_n 1, 1) := by decide +kernel
theorem dX6_init_6 : decode cX6_init 6 = .ok (.putfield 9, 3) := by decide +kernel
theorem dX6_init_9 : decode cX6_init 9 = .ok (.aload_n 0, 1) := by decide +kernel
theorem dX6_init_10 : decode cX6_init 10 = .ok (.aload_n 2, 1) := by decide +kernel
theorem dX6_init_11 : decode cX6_init 11 = .ok (.putfield 15, 3) := by decide +kernel
theorem dX6_init_14 : decode cX6_init 14 = .ok (.return_, 1) := by decide +kernel
theorem dX6_renew_0 : decode cX6_renew 0 = .ok (.aload_n 0, 1) := by decide +kernel
theorem dX6_renew_1 : decode cX6_renew 1 = .ok (.ldc 19, 2) := by decide +kernel
theorem dX6_renew_3 : decode cX6_renew 3 = .ok (.putfield 20, 3) := by decide +kernel
theorem dX6_renew_6 : decode cX6_renew 6 = .ok (.aload_n 0, 1) := by decide +kernel
theorem dX6_renew_7 : decode cX6_renew 7 = .ok (.fconst 0, 1) := by decide +kernel
theorem dX6_renew_8 : decode cX6_renew 8 = .ok (.putfield 24, 3) := by decide +kernel
theorem dX6_renew_11 : decode cX6_renew 11 = .ok (.return_, 1) := by decide +kernel
theorem dX6_letStand_0 : decode cX6_letStand 0 = .ok (.aload_n 1, 1) := by decide +kernel
theorem dX6_letStand_1 : decode cX6_letStand 1 = .ok (.dup, 1) := by decide +kernel
theorem dX6_letStand_2 : decode cX6_letStand 2 = .ok (.getfield 27, 3) := by decide +kernel
theorem dX6_letStand_5 : decode cX6_letStand 5 = .ok (.iconst 1, 1) := by decide +kernel
theorem dX6_letStand_6 : decode cX6_letStand 6 = .ok (.iadd, 1) := by decide +kernel
theorem dX6_letStand_7 : decode cX6_letStand 7 = .ok (.putfield 27, 3) := by decide +kernel
theorem dX6_letStand_10 : decode cX6_letStand 10 = .ok (.aload_n 1, 1) := by decide +kernel
theorem dX6_letStand_11 : decode cX6_letStand 11 = .ok (.aload_n 1, 1) := by decide +kernel
theorem dX6_letStand_12 : decode cX6_letStand 12 = .ok (.getfield 33, 3) := by decide +kernel
theorem dX6_letStand_15 : decode cX6_letStand 15 = .ok (.putfield 36, 3) := by decide +kernel
theorem dX6_letStand_18 : decode cX6_letStand 18 = .ok (.aload_n 1, 1) := by decide +kernel
theorem dX6_letStand_19 : decode cX6_letStand 19 = .ok (.iconst 1, 1) := by decide +kernel
theorem dX6_letStand_20 : decode cX6_letStand 20 = .ok (.putfield 39, 3) := by decide +kernel
theorem dX6_letStand_23 : decode cX6_letStand 23 = .ok (.aload_n 1, 1) := by decide +kernel
theorem dX6_letStand_24 : decode cX6_letStand 24 = .ok (.iconst 1, 1) := by decide +kernel
theorem dX6_letStand_25 : decode cX6_letStand 25 = .ok (.aload_n 1, 1) := by decide +kernel
theorem dX6_letStand_26 : decode cX6_letStand 26 = .ok (.getfield 33, 3) := by decide +kernel
theorem dX6_letStand_29 : decode cX6_letStand 29 = .ok (.ishl, 1) := by decide +kernel
theorem dX6_letStand_30 : decode cX6_letStand 30 = .ok (.putfield 42, 3) := by decide +kernel
theorem dX6_letStand_33 : decode cX6_letStand 33 = .ok (.iconst 0, 1) := by decide +kernel
theorem dX6_letStand_34 : decode cX6_letStand 34 = .ok (.istore_n 2, 1) := by decide +kernel
theorem dX6_letStand_35 : decode cX6_letStand 35 = .ok (.iload_n 2, 1) := by decide +kernel
theorem dX6_letStand_36 : decode cX6_letStand 36 = .ok (.aload_n 0, 1) := by decide +kernel
theorem dX6_letStand_37 : decode cX6_letStand 37 = .ok (.getfield 15, 3) := by decide +kernel
theorem dX6_letStand_40 : decode cX6_letStand 40 = .ok (.getfield 45, 3) := by decide +kernel
theorem dX6_letStand_43 : decode cX6_letStand 43 = .ok (.if_icmp .ge 64, 3) := by decide +kernel
theorem dX6_letStand_46 : decode cX6_letStand 46 = .ok (.iload_n 2, 1) := by decide +kernel
theorem dX6_letStand_47 : decode cX6_letStand 47 = .ok (.aload_n 1, 1) := by decide +kernel
theorem dX6_letStand_48 : decode cX6_letStand 48 = .ok (.getfield 33, 3) := by decide +kernel
theorem dX6_letStand_51 : decode cX6_letStand 51 = .ok (.if_icmp .eq 50, 3) := by decide +kernel
theorem dX6_letStand_54 : decode cX6_letStand 54 = .ok (.aload_n 0, 1) := by decide +kernel
theorem dX6_letStand_55 : decode cX6_letStand 55 = .ok (.getfield 15, 3) := by decide +kernel
theorem dX6_letStand_58 : decode cX6_letStand 58 = .ok (.iconst 0, 1) := by decide +kernel
theorem dX6_letStand_59 : decode cX6_letStand 59 = .ok (.aload_n 1, 1) := by decide +kernel
theorem dX6_letStand_60 : decode cX6_letStand 60 = .ok (.getfield 33, 3) := by decide +kernel
theorem dX6_letStand_63 : decode cX6_letStand 63 = .ok (.iload_n 2, 1) := by decide +kernel
theorem dX6_letStand_64 : decode cX6_letStand 64 = .ok (.aload_n 1, 1) := by decide +kernel
theorem dX6_letStand_65 : decode cX6_letStand 65 = .ok (.getfield 27, 3) := by decide +kernel
theorem dX6_letStand_68 : decode cX6_letStand 68 = .ok (.invokevirtual 50, 3) := by decide +kernel
theorem dX6_letStand_71 : decode cX6_letStand 71 = .ok (.astore_n 3, 1) := by decide +kernel
theorem dX6_letStand_72 : decode cX6_letStand 72 = .ok (.aload_n 3, 1) := by decide +kernel
theorem dX6_letStand_73 : decode cX6_letStand 73 = .ok (.aload_n 1, 1) := by decide +kernel
theorem dX6_letStand_74 : decode cX6_letStand 74 = .ok (.getfield 54, 3) := by decide +kernel
theorem dX6_letStand_77 : decode cX6_letStand 77 = .ok (.getfield 58, 3) := by decide +kernel
theorem dX6_letStand_80 : decode cX6_letStand 80 = .ok (.putfield 63, 3) := by decide +kernel
theorem dX6_letStand_83 : decode cX6_letStand 83 = .ok (.aload_n 3, 1) := by decide +kernel
theorem dX6_letStand_84 : decode cX6_letStand 84 = .ok (.aload_n 1, 1) := by decide +kernel
theorem dX6_letStand_85 : decode cX6_letStand 85 = .ok (.getfield 54, 3) := by decide +kernel
theorem dX6_letStand_88 : decode cX6_letStand 88 = .ok (.aload_n 1, 1) := by decide +kernel
theorem dX6_letStand_89 : decode cX6_letStand 89 = .ok (.getfield 54, 3) := by decide +kernel
theorem dX6_letStand_92 : decode cX6_letStand 92 = .ok (.getfield 58, 3) := by decide +kernel
theorem dX6_letStand_95 : decode cX6_letStand 95 = .ok (.invokevirtual 66, 3) := by decide +kernel
theorem dX6_letStand_98 : decode cX6_letStand 98 = .ok (.putfield 70, 3) := by decide +kernel
theorem dX6_letStand_101 : decode cX6_letStand 101 = .ok (.iinc 2 1, 3) := by decide +kernel
theorem dX6_letStand_104 : decode cX6_letStand 104 = .ok (.goto (-69), 3) := by decide +kernel
theorem dX6_letStand_107 : decode cX6_letStand 107 = .ok (.return_, 1) := by decide +kernel
theorem dX6_letBeat_0 : decode cX6_letBeat 0 = .ok (.iconst 0, 1) := by decide +kernel
theorem dX6_letBeat_1 : decode cX6_letBeat 1 = .ok (.istore_n 2, 1) := by decide +kernel
theorem dX6_letBeat_2 : decode cX6_letBeat 2 = .ok (.iconst 0, 1) := by decide +kernel
theorem dX6_letBeat_3 : decode cX6_letBeat 3 = .ok (.istore_n 3, 1) := by decide +kernel
theorem dX6_letBeat_4 : decode cX6_letBeat 4 = .ok (.iload_n 3, 1) := by decide +kernel
theorem dX6_letBeat_5 : decode cX6_letBeat 5 = .ok (.aload_n 0, 1) := by decide +kernel
theorem dX6_letBeat_6 : decode cX6_letBeat 6 = .ok (.getfield 15, 3) := by decide +kernel
theorem dX6_letBeat_9 : decode cX6_letBeat 9 = .ok (.getfield 45, 3) := by decide +kernel
theorem dX6_letBeat_12 : decode cX6_letBeat 12 = .ok (.if_icmp .ge 107, 3) := by decide +kernel
theorem dX6_letBeat_15 : decode cX6_letBeat 15 = .ok (.iload_n 3, 1) := by decide +kernel
theorem dX6_letBeat_16 : decode cX6_letBeat 16 = .ok (.aload_n 1, 1) := by decide +kernel
theorem dX6_letBeat_17 : decode cX6_letBeat 17 = .ok (.getfield 33, 3) := by decide +kernel
theorem dX6_letBeat_20 : decode cX6_letBeat 20 = .ok (.if_icmp .eq 93, 3) := by decide +kernel
theorem dX6_letBeat_23 : decode cX6_letBeat 23 = .ok (.aload_n 0, 1) := by decide +kernel
theorem dX6_letBeat_24 : decode cX6_letBeat 24 = .ok (.getfield 15, 3) := by decide +kernel
theorem dX6_letBeat_27 : decode cX6_letBeat 27 = .ok (.iconst 2, 1) := by decide +kernel
theorem dX6_letBeat_28 : decode cX6_letBeat 28 = .ok (.aload_n 1, 1) := by decide +kernel
theorem dX6_letBeat_29 : decode cX6_letBeat 29 = .ok (.getfield 33, 3) := by decide +kernel
theorem dX6_letBeat_32 : decode cX6_letBeat 32 = .ok (.iload_n 3, 1) := by decide +kernel
theorem dX6_letBeat_33 : decode cX6_letBeat 33 = .ok (.aload_n 1, 1) := by decide +kernel
theorem dX6_letBeat_34 : decode cX6_letBeat 34 = .ok (.getfield 27, 3) := by decide +kernel
theorem dX6_letBeat_37 : decode cX6_letBeat 37 = .ok (.invokevirtual 50, 3) := by decide +kernel
theorem dX6_letBeat_40 : decode cX6_letBeat 40 = .ok (.astore 4, 2) := by decide +kernel
theorem dX6_letBeat_42 : decode cX6_letBeat 42 = .ok (.aload 4, 2) := by decide +kernel
theorem dX6_letBeat_44 : decode cX6_letBeat 44 = .ok (.aload_n 1, 1) := by decide +kernel
theorem dX6_letBeat_45 : decode cX6_letBeat 45 = .ok (.getfield 73, 3) := by decide +kernel
theorem dX6_letBeat_48 : decode cX6_letBeat 48 = .ok (.getfield 77, 3) := by decide +kernel
theorem dX6_letBeat_51 : decode cX6_letBeat 51 = .ok (.iload_n 3, 1) := by decide +kernel
theorem dX6_letBeat_52 : decode cX6_letBeat 52 = .ok (.iaload, 1) := by decide +kernel
theorem dX6_letBeat_53 : decode cX6_letBeat 53 = .ok (.putfield 63, 3) := by decide +kernel
theorem dX6_letBeat_56 : decode cX6_letBeat 56 = .ok (.aload 4, 2) := by decide +kernel
theorem dX6_letBeat_58 : decode cX6_letBeat 58 = .ok (.aload_n 1, 1) := by decide +kernel
theorem dX6_letBeat_59 : decode cX6_letBeat 59 = .ok (.getfield 54, 3) := by decide +kernel
theorem dX6_letBeat_62 : decode cX6_letBeat 62 = .ok (.aload 4, 2) := by decide +kernel
theorem dX6_letBeat_64 : decode cX6_letBeat 64 = .ok (.getfield 63, 3) := by decide +kernel
theorem dX6_letBeat_67 : decode cX6_letBeat 67 = .ok (.invokevirtual 66, 3) := by decide +kernel
theorem dX6_letBeat_70 : decode cX6_letBeat 70 = .ok (.putfield 70, 3) := by decide +kernel
theorem dX6_letBeat_73 : decode cX6_letBeat 73 = .ok (.aload 4, 2) := by decide +kernel
theorem dX6_letBeat_75 : decode cX6_letBeat 75 = .ok (.aload_n 1, 1) := by decide +kernel
theorem dX6_letBeat_76 : decode cX6_letBeat 76 = .ok (.getfield 54, 3) := by decide +kernel
theorem dX6_letBeat_79 : decode cX6_letBeat 79 = .ok (.aload 4, 2) := by decide +kernel
theorem dX6_letBeat_81 : decode cX6_letBeat 81 = .ok (.getfield 63, 3) := by decide +kernel
theorem dX6_letBeat_84 : decode cX6_letBeat 84 = .ok (.invokevirtual 83, 3) := by decide +kernel
theorem dX6_letBeat_87 : decode cX6_letBeat 87 = .ok (.aload 4, 2) := by decide +kernel
theorem dX6_letBeat_89 : decode cX6_letBeat 89 = .ok (.aload_n 1, 1) := by decide +kernel
theorem dX6_letBeat_90 : decode cX6_letBeat 90 = .ok (.getfield 87, 3) := by decide +kernel
theorem dX6_letBeat_93 : decode cX6_letBeat 93 = .ok (.putfield 90, 3) := by decide +kernel
theorem dX6_letBeat_96 : decode cX6_letBeat 96 = .ok (.aload 4, 2) := by decide +kernel
theorem dX6_letBeat_98 : decode cX6_letBeat 98 = .ok (.aload_n 1, 1) := by decide +kernel
theorem dX6_letBeat_99 : decode cX6_letBeat 99 = .ok (.getfield 91, 3) := by decide +kernel
theorem dX6_letBeat_102 : decode cX6_letBeat 102 = .ok (.putfield 94, 3) := by decide +kernel
theorem dX6_letBeat_105 : decode cX6_letBeat 105 = .ok (.iload_n 2, 1) := by decide +kernel
theorem dX6_letBeat_106 : decode cX6_letBeat 106 = .ok (.aload 4, 2) := by decide +kernel
theorem dX6_letBeat_108 : decode cX6_letBeat 108 = .ok (.getfield 95, 3) := by decide +kernel
theorem dX6_letBeat_111 : decode cX6_letBeat 111 = .ok (.iadd, 1) := by decide +kernel
theorem dX6_letBeat_112 : decode cX6_letBeat 112 = .ok (.istore_n 2, 1) := by decide +kernel
theorem dX6_letBeat_113 : decode cX6_letBeat 113 = .ok (.iinc 3 1, 3) := by decide +kernel
theorem dX6_letBeat_116 : decode cX6_letBeat 116 = .ok (.goto (-112), 3) := by decide +kernel
theorem dX6_letBeat_119 : decode cX6_letBeat 119 = .ok (.iload_n 2, 1) := by decide +kernel
theorem dX6_letBeat_120 : decode cX6_letBeat 120 = .ok (.ireturn, 1) := by decide +kernel
theorem dX6_hear_0 : decode cX6_hear 0 = .ok (.aload_n 0, 1) := by decide +kernel
theorem dX6_hear_1 : decode cX6_hear 1 = .ok (.getfield 9, 3) := by decide +kernel
theorem dX6_hear_4 : decode cX6_hear 4 = .ok (.aload_n 1, 1) := by decide +kernel
theorem dX6_hear_5 : decode cX6_hear 5 = .ok (.getfield 98, 3) := by decide +kernel
theorem dX6_hear_8 : decode cX6_hear 8 = .ok (.aaload, 1) := by decide +kernel
theorem dX6_hear_9 : decode cX6_hear 9 = .ok (.astore_n 2, 1) := by decide +kernel
theorem dX6_hear_10 : decode cX6_hear 10 = .ok (.aload_n 2, 1) := by decide +kernel
theorem dX6_hear_11 : decode cX6_hear 11 = .ok (.aload_n 1, 1) := by decide +kernel
theorem dX6_hear_12 : decode cX6_hear 12 = .ok (.getfield 101, 3) := by decide +kernel
theorem dX6_hear_15 : decode cX6_hear 15 = .ok (.invokevirtual 102, 3) := by decide +kernel
theorem dX6_hear_18 : decode cX6_hear 18 = .ok (.aload_n 1, 1) := by decide +kernel
theorem dX6_hear_19 : decode cX6_hear 19 = .ok (.getfield 106, 3) := by decide +kernel
theorem dX6_hear_22 : decode cX6_hear 22 = .ok (.tableswitch 66 0 3 #[30, 39, 48, 57], 30) := by decide +kernel
theorem dX6_hear_52 : decode cX6_hear 52 = .ok (.aload_n 0, 1) := by decide +kernel
theorem dX6_hear_53 : decode cX6_hear 53 = .ok (.aload_n 2, 1) := by decide +kernel
theorem dX6_hear_54 : decode cX6_hear 54 = .ok (.aload_n 1, 1) := by decide +kernel
theorem dX6_hear_55 : decode cX6_hear 55 = .ok (.invokevirtual 109, 3) := by decide +kernel
theorem dX6_hear_58 : decode cX6_hear 58 = .ok (.goto 30, 3) := by decide +kernel
theorem dX6_hear_61 : decode cX6_hear 61 = .ok (.aload_n 0, 1) := by decide +kernel
theorem dX6_hear_62 : decode cX6_hear 62 = .ok (.aload_n 2, 1) := by decide +kernel
theorem dX6_hear_63 : decode cX6_hear 63 = .ok (.aload_n 1, 1) := by decide +kernel
theorem dX6_hear_64 : decode cX6_hear 64 = .ok (.invokevirtual 113, 3) := by decide +kernel
theorem dX6_hear_67 : decode cX6_hear 67 = .ok (.goto 21, 3) := by decide +kernel
theorem dX6_hear_70 : decode cX6_hear 70 = .ok (.aload_n 0, 1) := by decide +kernel
theorem dX6_hear_71 : decode cX6_hear 71 = .ok (.aload_n 2, 1) := by decide +kernel
theorem dX6_hear_72 : decode cX6_hear 72 = .ok (.aload_n 1, 1) := by decide +kernel
theorem dX6_hear_73 : decode cX6_hear 73 = .ok (.invokevirtual 116, 3) := by decide +kernel
theorem dX6_hear_76 : decode cX6_hear 76 = .ok (.goto 12, 3) := by decide +kernel
theorem dX6_hear_79 : decode cX6_hear 79 = .ok (.aload_n 0, 1) := by decide +kernel
theorem dX6_hear_80 : decode cX6_hear 80 = .ok (.aload_n 2, 1) := by decide +kernel
theorem dX6_hear_81 : decode cX6_hear 81 = .ok (.aload_n 1, 1) := by decide +kernel
theorem dX6_hear_82 : decode cX6_hear 82 = .ok (.invokevirtual 119, 3) := by decide +kernel
theorem dX6_hear_85 : decode cX6_hear 85 = .ok (.goto 3, 3) := by decide +kernel
theorem dX6_hear_88 : decode cX6_hear 88 = .ok (.return_, 1) := by decide +kernel
theorem dX6_hearAsk_0 : decode cX6_hearAsk 0 = .ok (.aload_n 2, 1) := by decide +kernel
theorem dX6_hearAsk_1 : decode cX6_hearAsk 1 = .ok (.getfield 101, 3) := by decide +kernel
theorem dX6_hearAsk_4 : decode cX6_hearAsk 4 = .ok (.aload_n 1, 1) := by decide +kernel
theorem dX6_hearAsk_5 : decode cX6_hearAsk 5 = .ok (.getfield 27, 3) := by decide +kernel
theorem dX6_hearAsk_8 : decode cX6_hearAsk 8 = .ok (.if_icmp .ne 15, 3) := by decide +kernel
theorem dX6_hearAsk_11 : decode cX6_hearAsk 11 = .ok (.aload_n 1, 1) := by decide +kernel
theorem dX6_hearAsk_12 : decode cX6_hearAsk 12 = .ok (.aload_n 2, 1) := by decide +kernel
theorem dX6_hearAsk_13 : decode cX6_hearAsk 13 = .ok (.invokevirtual 122, 3) := by decide +kernel
theorem dX6_hearAsk_16 : decode cX6_hearAsk 16 = .ok (.ifCond .eq 7, 3) := by decide +kernel
theorem dX6_hearAsk_19 : decode cX6_hearAsk 19 = .ok (.iconst 1, 1) := by decide +kernel
theorem dX6_hearAsk_20 : decode cX6_hearAsk 20 = .ok (.goto 4, 3) := by decide +kernel
theorem dX6_hearAsk_23 : decode cX6_hearAsk 23 = .ok (.iconst 0, 1) := by decide +kernel
theorem dX6_hearAsk_24 : decode cX6_hearAsk 24 = .ok (.istore_n 3, 1) := by decide +kernel
theorem dX6_hearAsk_25 : decode cX6_hearAsk 25 = .ok (.iload_n 3, 1) := by decide +kernel
theorem dX6_hearAsk_26 : decode cX6_hearAsk 26 = .ok (.ifCond .eq 11, 3) := by decide +kernel
theorem dX6_hearAsk_29 : decode cX6_hearAsk 29 = .ok (.aload_n 1, 1) := by decide +kernel
theorem dX6_hearAsk_30 : decode cX6_hearAsk 30 = .ok (.aload_n 2, 1) := by decide +kernel
theorem dX6_hearAsk_31 : decode cX6_hearAsk 31 = .ok (.getfield 126, 3) := by decide +kernel
theorem dX6_hearAsk_34 : decode cX6_hearAsk 34 = .ok (.putfield 36, 3) := by decide +kernel
theorem dX6_hearAsk_37 : decode cX6_hearAsk 37 = .ok (.aload_n 0, 1) := by decide +kernel
theorem dX6_hearAsk_38 : decode cX6_hearAsk 38 = .ok (.getfield 15, 3) := by decide +kernel
theorem dX6_hearAsk_41 : decode cX6_hearAsk 41 = .ok (.iconst 1, 1) := by decide +kernel
theorem dX6_hearAsk_42 : decode cX6_hearAsk 42 = .ok (.aload_n 1, 1) := by decide +kernel
theorem dX6_hearAsk_43 : decode cX6_hearAsk 43 = .ok (.getfield 33, 3) := by decide +kernel
theorem dX6_hearAsk_46 : decode cX6_hearAsk 46 = .ok (.aload_n 2, 1) := by decide +kernel
theorem dX6_hearAsk_47 : decode cX6_hearAsk 47 = .ok (.getfield 126, 3) := by decide +kernel
theorem dX6_hearAsk_50 : decode cX6_hearAsk 50 = .ok (.aload_n 1, 1) := by decide +kernel
theorem dX6_hearAsk_51 : decode cX6_hearAsk 51 = .ok (.getfield 27, 3) := by decide +kernel
theorem dX6_hearAsk_54 : decode cX6_hearAsk 54 = .ok (.invokevirtual 50, 3) := by decide +kernel
theorem dX6_hearAsk_57 : decode cX6_hearAsk 57 = .ok (.iload_n 3, 1) := by decide +kernel
theorem dX6_hearAsk_58 : decode cX6_hearAsk 58 = .ok (.putfield 129, 3) := by decide +kernel
theorem dX6_hearAsk_61 : decode cX6_hearAsk 61 = .ok (.return_, 1) := by decide +kernel
theorem dX6_hearVote_0 : decode cX6_hearVote 0 = .ok (.aload_n 1, 1) := by decide +kernel
theorem dX6_hearVote_1 : decode cX6_hearVote 1 = .ok (.getfield 39, 3) := by decide +kernel
theorem dX6_hearVote_4 : decode cX6_hearVote 4 = .ok (.iconst 1, 1) := by decide +kernel
theorem dX6_hearVote_5 : decode cX6_hearVote 5 = .ok (.if_icmp .ne 21, 3) := by decide +kernel
theorem dX6_hearVote_8 : decode cX6_hearVote 8 = .ok (.aload_n 2, 1) := by decide +kernel
theorem dX6_hearVote_9 : decode cX6_hearVote 9 = .ok (.getfield 101, 3) := by decide +kernel
theorem dX6_hearVote_12 : decode cX6_hearVote 12 = .ok (.aload_n 1, 1) := by decide +kernel
theorem dX6_hearVote_13 : decode cX6_hearVote 13 = .ok (.getfield 27, 3) := by decide +kernel
theorem dX6_hearVote_16 : decode cX6_hearVote 16 = .ok (.if_icmp .ne 10, 3) := by decide +kernel
theorem dX6_hearVote_19 : decode cX6_hearVote 19 = .ok (.aload_n 2, 1) := by decide +kernel
theorem dX6_hearVote_20 : decode cX6_hearVote 20 = .ok (.getfield 129, 3) := by decide +kernel
theorem dX6_hearVote_23 : decode cX6_hearVote 23 = .ok (.ifCond .ne 4, 3) := by decide +kernel
theorem dX6_hearVote_26 : decode cX6_hearVote 26 = .ok (.return_, 1) := by decide +kernel
theorem dX6_hearVote_27 : decode cX6_hearVote 27 = .ok (.aload_n 1, 1) := by decide +kernel
theorem dX6_hearVote_28 : decode cX6_hearVote 28 = .ok (.dup, 1) := by decide +kernel
theorem dX6_hearVote_29 : decode cX6_hearVote 29 = .ok (.getfield 42, 3) := by decide +kernel
theorem dX6_hearVote_32 : decode cX6_hearVote 32 = .ok (.iconst 1, 1) := by decide +kernel
theorem dX6_hearVote_33 : decode cX6_hearVote 33 = .ok (.aload_n 2, 1) := by decide +kernel
theorem dX6_hearVote_34 : decode cX6_hearVote 34 = .ok (.getfield 126, 3) := by decide +kernel
theorem dX6_hearVote_37 : decode cX6_hearVote 37 = .ok (.ishl, 1) := by decide +kernel
theorem dX6_hearVote_38 : decode cX6_hearVote 38 = .ok (.ior, 1) := by decide +kernel
theorem dX6_hearVote_39 : decode cX6_hearVote 39 = .ok (.putfield 42, 3) := by decide +kernel
theorem dX6_hearVote_42 : decode cX6_hearVote 42 = .ok (.aload_n 0, 1) := by decide +kernel
theorem dX6_hearVote_43 : decode cX6_hearVote 43 = .ok (.getfield 15, 3) := by decide +kernel
theorem dX6_hearVote_46 : decode cX6_hearVote 46 = .ok (.aload_n 1, 1) := by decide +kernel
theorem dX6_hearVote_47 : decode cX6_hearVote 47 = .ok (.getfield 42, 3) := by decide +kernel
theorem dX6_hearVote_50 : decode cX6_hearVote 50 = .ok (.invokevirtual 133, 3) := by decide +kernel
theorem dX6_hearVote_53 : decode cX6_hearVote 53 = .ok (.ifCond .eq 22, 3) := by decide +kernel
theorem dX6_hearVote_56 : decode cX6_hearVote 56 = .ok (.aload_n 1, 1) := by decide +kernel
theorem dX6_hearVote_57 : decode cX6_hearVote 57 = .ok (.iconst 2, 1) := by decide +kernel
theorem dX6_hearVote_58 : decode cX6_hearVote 58 = .ok (.putfield 39, 3) := by decide +kernel
theorem dX6_hearVote_61 : decode cX6_hearVote 61 = .ok (.aload_n 1, 1) := by decide +kernel
theorem dX6_hearVote_62 : decode cX6_hearVote 62 = .ok (.getfield 73, 3) := by decide +kernel
theorem dX6_hearVote_65 : decode cX6_hearVote 65 = .ok (.aload_n 1, 1) := by decide +kernel
theorem dX6_hearVote_66 : decode cX6_hearVote 66 = .ok (.getfield 54, 3) := by decide +kernel
theorem dX6_hearVote_69 : decode cX6_hearVote 69 = .ok (.getfield 58, 3) := by decide +kernel
theorem dX6_hearVote_72 : decode cX6_hearVote 72 = .ok (.invokevirtual 137, 3) := by decide +kernel
theorem dX6_hearVote_75 : decode cX6_hearVote 75 = .ok (.return_, 1) := by decide +kernel
theorem dX6_hearAppend_0 : decode cX6_hearAppend 0 = .ok (.aload_n 2, 1) := by decide +kernel
theorem dX6_hearAppend_1 : decode cX6_hearAppend 1 = .ok (.getfield 101, 3) := by decide +kernel
theorem dX6_hearAppend_4 : decode cX6_hearAppend 4 = .ok (.aload_n 1, 1) := by decide +kernel
theorem dX6_hearAppend_5 : decode cX6_hearAppend 5 = .ok (.getfield 27, 3) := by decide +kernel
theorem dX6_hearAppend_8 : decode cX6_hearAppend 8 = .ok (.if_icmp .ge 12, 3) := by decide +kernel
theorem dX6_hearAppend_11 : decode cX6_hearAppend 11 = .ok (.aload_n 0, 1) := by decide +kernel
theorem dX6_hearAppend_12 : decode cX6_hearAppend 12 = .ok (.aload_n 1, 1) := by decide +kernel
theorem dX6_hearAppend_13 : decode cX6_hearAppend 13 = .ok (.aload_n 2, 1) := by decide +kernel
theorem dX6_hearAppend_14 : decode cX6_hearAppend 14 = .ok (.iconst 0, 1) := by decide +kernel
theorem dX6_hearAppend_15 : decode cX6_hearAppend 15 = .ok (.iconst 0, 1) := by decide +kernel
theorem dX6_hearAppend_16 : decode cX6_hearAppend 16 = .ok (.invokevirtual 140, 3) := by decide +kernel
theorem dX6_hearAppend_19 : decode cX6_hearAppend 19 = .ok (.return_, 1) := by decide +kernel
theorem dX6_hearAppend_20 : decode cX6_hearAppend 20 = .ok (.aload_n 1, 1) := by decide +kernel
theorem dX6_hearAppend_21 : decode cX6_hearAppend 21 = .ok (.invokevirtual 144, 3) := by decide +kernel
theorem dX6_hearAppend_24 : decode cX6_hearAppend 24 = .ok (.aload_n 2, 1) := by decide +kernel
theorem dX6_hearAppend_25 : decode cX6_hearAppend 25 = .ok (.getfield 63, 3) := by decide +kernel
theorem dX6_hearAppend_28 : decode cX6_hearAppend 28 = .ok (.ifCond .eq 45, 3) := by decide +kernel
theorem dX6_hearAppend_31 : decode cX6_hearAppend 31 = .ok (.aload_n 1, 1) := by decide +kernel
theorem dX6_hearAppend_32 : decode cX6_hearAppend 32 = .ok (.getfield 54, 3) := by decide +kernel
theorem dX6_hearAppend_35 : decode cX6_hearAppend 35 = .ok (.aload_n 2, 1) := by decide +kernel
theorem dX6_hearAppend_36 : decode cX6_hearAppend 36 = .ok (.getfield 63, 3) := by decide +kernel
theorem dX6_hearAppend_39 : decode cX6_hearAppend 39 = .ok (.invokevirtual 66, 3) := by decide +kernel
theorem dX6_hearAppend_42 : decode cX6_hearAppend 42 = .ok (.aload_n 2, 1) := by decide +kernel
theorem dX6_hearAppend_43 : decode cX6_hearAppend 43 = .ok (.getfield 70, 3) := by decide +kernel
theorem dX6_hearAppend_46 : decode cX6_hearAppend 46 = .ok (.if_icmp .eq 27, 3) := by decide +kernel
theorem dX6_hearAppend_49 : decode cX6_hearAppend 49 = .ok (.aload_n 0, 1) := by decide +kernel
theorem dX6_hearAppend_50 : decode cX6_hearAppend 50 = .ok (.aload_n 1, 1) := by decide +kernel
theorem dX6_hearAppend_51 : decode cX6_hearAppend 51 = .ok (.aload_n 2, 1) := by decide +kernel
theorem dX6_hearAppend_52 : decode cX6_hearAppend 52 = .ok (.iconst 0, 1) := by decide +kernel
theorem dX6_hearAppend_53 : decode cX6_hearAppend 53 = .ok (.aload_n 2, 1) := by decide +kernel
theorem dX6_hearAppend_54 : decode cX6_hearAppend 54 = .ok (.getfield 63, 3) := by decide +kernel
theorem dX6_hearAppend_57 : decode cX6_hearAppend 57 = .ok (.iconst 1, 1) := by decide +kernel
theorem dX6_hearAppend_58 : decode cX6_hearAppend 58 = .ok (.isub, 1) := by decide +kernel
theorem dX6_hearAppend_59 : decode cX6_hearAppend 59 = .ok (.aload_n 1, 1) := by decide +kernel
theorem dX6_hearAppend_60 : decode cX6_hearAppend 60 = .ok (.getfield 54, 3) := by decide +kernel
theorem dX6_hearAppend_63 : decode cX6_hearAppend 63 = .ok (.getfield 58, 3) := by decide +kernel
theorem dX6_hearAppend_66 : decode cX6_hearAppend 66 = .ok (.invokestatic 147, 3) := by decide +kernel
theorem dX6_hearAppend_69 : decode cX6_hearAppend 69 = .ok (.invokevirtual 140, 3) := by decide +kernel
theorem dX6_hearAppend_72 : decode cX6_hearAppend 72 = .ok (.return_, 1) := by decide +kernel
theorem dX6_hearAppend_73 : decode cX6_hearAppend 73 = .ok (.aload_n 0, 1) := by decide +kernel
theorem dX6_hearAppend_74 : decode cX6_hearAppend 74 = .ok (.aload_n 1, 1) := by decide +kernel
theorem dX6_hearAppend_75 : decode cX6_hearAppend 75 = .ok (.getfield 54, 3) := by decide +kernel
theorem dX6_hearAppend_78 : decode cX6_hearAppend 78 = .ok (.aload_n 2, 1) := by decide +kernel
theorem dX6_hearAppend_79 : decode cX6_hearAppend 79 = .ok (.invokevirtual 153, 3) := by decide +kernel
theorem dX6_hearAppend_82 : decode cX6_hearAppend 82 = .ok (.aload_n 2, 1) := by decide +kernel
theorem dX6_hearAppend_83 : decode cX6_hearAppend 83 = .ok (.getfield 63, 3) := by decide +kernel
theorem dX6_hearAppend_86 : decode cX6_hearAppend 86 = .ok (.aload_n 2, 1) := by decide +kernel
theorem dX6_hearAppend_87 : decode cX6_hearAppend 87 = .ok (.getfield 95, 3) := by decide +kernel
theorem dX6_hearAppend_90 : decode cX6_hearAppend 90 = .ok (.iadd, 1) := by decide +kernel
theorem dX6_hearAppend_91 : decode cX6_hearAppend 91 = .ok (.istore_n 3, 1) := by decide +kernel
theorem dX6_hearAppend_92 : decode cX6_hearAppend 92 = .ok (.aload_n 1, 1) := by decide +kernel
theorem dX6_hearAppend_93 : decode cX6_hearAppend 93 = .ok (.aload_n 1, 1) := by decide +kernel
theorem dX6_hearAppend_94 : decode cX6_hearAppend 94 = .ok (.getfield 87, 3) := by decide +kernel
theorem dX6_hearAppend_97 : decode cX6_hearAppend 97 = .ok (.aload_n 2, 1) := by decide +kernel
theorem dX6_hearAppend_98 : decode cX6_hearAppend 98 = .ok (.getfield 90, 3) := by decide +kernel
theorem dX6_hearAppend_101 : decode cX6_hearAppend 101 = .ok (.iload_n 3, 1) := by decide +kernel
theorem dX6_hearAppend_102 : decode cX6_hearAppend 102 = .ok (.invokestatic 147, 3) := by decide +kernel
theorem dX6_hearAppend_105 : decode cX6_hearAppend 105 = .ok (.invokestatic 157, 3) := by decide +kernel
theorem dX6_hearAppend_108 : decode cX6_hearAppend 108 = .ok (.putfield 87, 3) := by decide +kernel
theorem dX6_hearAppend_111 : decode cX6_hearAppend 111 = .ok (.aload_n 1, 1) := by decide +kernel
theorem dX6_hearAppend_112 : decode cX6_hearAppend 112 = .ok (.aload_n 2, 1) := by decide +kernel
theorem dX6_hearAppend_113 : decode cX6_hearAppend 113 = .ok (.getfield 126, 3) := by decide +kernel
theorem dX6_hearAppend_116 : decode cX6_hearAppend 116 = .ok (.aload_n 0, 1) := by decide +kernel
theorem dX6_hearAppend_117 : decode cX6_hearAppend 117 = .ok (.getfield 20, 3) := by decide +kernel
theorem dX6_hearAppend_120 : decode cX6_hearAppend 120 = .ok (.invokevirtual 160, 3) := by decide +kernel
theorem dX6_hearAppend_123 : decode cX6_hearAppend 123 = .ok (.aload_n 0, 1) := by decide +kernel
theorem dX6_hearAppend_124 : decode cX6_hearAppend 124 = .ok (.aload_n 1, 1) := by decide +kernel
theorem dX6_hearAppend_125 : decode cX6_hearAppend 125 = .ok (.aload_n 2, 1) := by decide +kernel
theorem dX6_hearAppend_126 : decode cX6_hearAppend 126 = .ok (.iconst 1, 1) := by decide +kernel
theorem dX6_hearAppend_127 : decode cX6_hearAppend 127 = .ok (.iload_n 3, 1) := by decide +kernel
theorem dX6_hearAppend_128 : decode cX6_hearAppend 128 = .ok (.invokevirtual 140, 3) := by decide +kernel
theorem dX6_hearAppend_131 : decode cX6_hearAppend 131 = .ok (.return_, 1) := by decide +kernel
theorem dX6_putEntries_0 : decode cX6_putEntries 0 = .ok (.iconst 0, 1) := by decide +kernel
theorem dX6_putEntries_1 : decode cX6_putEntries 1 = .ok (.istore_n 3, 1) := by decide +kernel
theorem dX6_putEntries_2 : decode cX6_putEntries 2 = .ok (.iload_n 3, 1) := by decide +kernel
theorem dX6_putEntries_3 : decode cX6_putEntries 3 = .ok (.aload_n 2, 1) := by decide +kernel
theorem dX6_putEntries_4 : decode cX6_putEntries 4 = .ok (.getfield 95, 3) := by decide +kernel
theorem dX6_putEntries_7 : decode cX6_putEntries 7 = .ok (.if_icmp .ge 55, 3) := by decide +kernel
theorem dX6_putEntries_10 : decode cX6_putEntries 10 = .ok (.aload_n 2, 1) := by decide +kernel
theorem dX6_putEntries_11 : decode cX6_putEntries 11 = .ok (.getfield 164, 3) := by decide +kernel
theorem dX6_putEntries_14 : decode cX6_putEntries 14 = .ok (.iload_n 3, 1) := by decide +kernel
theorem dX6_putEntries_15 : decode cX6_putEntries 15 = .ok (.aaload, 1) := by decide +kernel
theorem dX6_putEntries_16 : decode cX6_putEntries 16 = .ok (.astore 4, 2) := by decide +kernel
theorem dX6_putEntries_18 : decode cX6_putEntries 18 = .ok (.aload_n 2, 1) := by decide +kernel
theorem dX6_putEntries_19 : decode cX6_putEntries 19 = .ok (.getfield 63, 3) := by decide +kernel
theorem dX6_putEntries_22 : decode cX6_putEntries 22 = .ok (.iconst 1, 1) := by decide +kernel
theorem dX6_putEntries_23 : decode cX6_putEntries 23 = .ok (.iadd, 1) := by decide +kernel
theorem dX6_putEntries_24 : decode cX6_putEntries 24 = .ok (.iload_n 3, 1) := by decide +kernel
theorem dX6_putEntries_25 : decode cX6_putEntries 25 = .ok (.iadd, 1) := by decide +kernel
theorem dX6_putEntries_26 : decode cX6_putEntries 26 = .ok (.istore 5, 2) := by decide +kernel
theorem dX6_putEntries_28 : decode cX6_putEntries 28 = .ok (.aload_n 1, 1) := by decide +kernel
theorem dX6_putEntries_29 : decode cX6_putEntries 29 = .ok (.iload 5, 2) := by decide +kernel
theorem dX6_putEntries_31 : decode cX6_putEntries 31 = .ok (.invokevirtual 66, 3) := by decide +kernel
theorem dX6_putEntries_34 : decode cX6_putEntries 34 = .ok (.aload 4, 2) := by decide +kernel
theorem dX6_putEntries_36 : decode cX6_putEntries 36 = .ok (.getfield 168, 3) := by decide +kernel
theorem dX6_putEntries_39 : decode cX6_putEntries 39 = .ok (.if_icmp .eq 17, 3) := by decide +kernel
theorem dX6_putEntries_42 : decode cX6_putEntries 42 = .ok (.aload_n 1, 1) := by decide +kernel
theorem dX6_putEntries_43 : decode cX6_putEntries 43 = .ok (.iload 5, 2) := by decide +kernel
theorem dX6_putEntries_45 : decode cX6_putEntries 45 = .ok (.iconst 1, 1) := by decide +kernel
theorem dX6_putEntries_46 : decode cX6_putEntries 46 = .ok (.isub, 1) := by decide +kernel
theorem dX6_putEntries_47 : decode cX6_putEntries 47 = .ok (.invokevirtual 171, 3) := by decide +kernel
theorem dX6_putEntries_50 : decode cX6_putEntries 50 = .ok (.aload_n 1, 1) := by decide +kernel
theorem dX6_putEntries_51 : decode cX6_putEntries 51 = .ok (.aload 4, 2) := by decide +kernel
theorem dX6_putEntries_53 : decode cX6_putEntries 53 = .ok (.invokevirtual 174, 3) := by decide +kernel
theorem dX6_putEntries_56 : decode cX6_putEntries 56 = .ok (.iinc 3 1, 3) := by decide +kernel
theorem dX6_putEntries_59 : decode cX6_putEntries 59 = .ok (.goto (-57), 3) := by decide +kernel
theorem dX6_putEntries_62 : decode cX6_putEntries 62 = .ok (.return_, 1) := by decide +kernel
theorem dX6_sendAck_0 : decode cX6_sendAck 0 = .ok (.aload_n 0, 1) := by decide +kernel
theorem dX6_sendAck_1 : decode cX6_sendAck 1 = .ok (.getfield 15, 3) := by decide +kernel
theorem dX6_sendAck_4 : decode cX6_sendAck 4 = .ok (.iconst 3, 1) := by decide +kernel
theorem dX6_sendAck_5 : decode cX6_sendAck 5 = .ok (.aload_n 1, 1) := by decide +kernel
theorem dX6_sendAck_6 : decode cX6_sendAck 6 = .ok (.getfield 33, 3) := by decide +kernel
theorem dX6_sendAck_9 : decode cX6_sendAck 9 = .ok (.aload_n 2, 1) := by decide +kernel
theorem dX6_sendAck_10 : decode cX6_sendAck 10 = .ok (.getfield 126, 3) := by decide +kernel
theorem dX6_sendAck_13 : decode cX6_sendAck 13 = .ok (.aload_n 1, 1) := by decide +kernel
theorem dX6_sendAck_14 : decode cX6_sendAck 14 = .ok (.getfield 27, 3) := by decide +kernel
theorem dX6_sendAck_17 : decode cX6_sendAck 17 = .ok (.invokevirtual 50, 3) := by decide +kernel
theorem dX6_sendAck_20 : decode cX6_sendAck 20 = .ok (.astore 5, 2) := by decide +kernel
theorem dX6_sendAck_22 : decode cX6_sendAck 22 = .ok (.aload 5, 2) := by decide +kernel
theorem dX6_sendAck_24 : decode cX6_sendAck 24 = .ok (.iload_n 3, 1) := by decide +kernel
theorem dX6_sendAck_25 : decode cX6_sendAck 25 = .ok (.putfield 129, 3) := by decide +kernel
theorem dX6_sendAck_28 : decode cX6_sendAck 28 = .ok (.aload 5, 2) := by decide +kernel
theorem dX6_sendAck_30 : decode cX6_sendAck 30 = .ok (.iload 4, 2) := by decide +kernel
theorem dX6_sendAck_32 : decode cX6_sendAck 32 = .ok (.putfield 63, 3) := by decide +kernel
theorem dX6_sendAck_35 : decode cX6_sendAck 35 = .ok (.aload 5, 2) := by decide +kernel
theorem dX6_sendAck_37 : decode cX6_sendAck 37 = .ok (.aload_n 2, 1) := by decide +kernel
theorem dX6_sendAck_38 : decode cX6_sendAck 38 = .ok (.getfield 94, 3) := by decide +kernel
theorem dX6_sendAck_41 : decode cX6_sendAck 41 = .ok (.putfield 94, 3) := by decide +kernel
theorem dX6_sendAck_44 : decode cX6_sendAck 44 = .ok (.return_, 1) := by decide +kernel
theorem dX6_hearAck_0 : decode cX6_hearAck 0 = .ok (.aload_n 1, 1) := by decide +kernel
theorem dX6_hearAck_1 : decode cX6_hearAck 1 = .ok (.getfield 39, 3) := by decide +kernel
theorem dX6_hearAck_4 : decode cX6_hearAck 4 = .ok (.iconst 2, 1) := by decide +kernel
theorem dX6_hearAck_5 : decode cX6_hearAck 5 = .ok (.if_icmp .ne 14, 3) := by decide +kernel
theorem dX6_hearAck_8 : decode cX6_hearAck 8 = .ok (.aload_n 2, 1) := by decide +kernel
theorem dX6_hearAck_9 : decode cX6_hearAck 9 = .ok (.getfield 101, 3) := by decide +kernel
theorem dX6_hearAck_12 : decode cX6_hearAck 12 = .ok (.aload_n 1, 1) := by decide +kernel
theorem dX6_hearAck_13 : decode cX6_hearAck 13 = .ok (.getfield 27, 3) := by decide +kernel
theorem dX6_hearAck_16 : decode cX6_hearAck 16 = .ok (.if_icmp .eq 4, 3) := by decide +kernel
theorem dX6_hearAck_19 : decode cX6_hearAck 19 = .ok (.return_, 1) := by decide +kernel
theorem dX6_hearAck_20 : decode cX6_hearAck 20 = .ok (.aload_n 2, 1) := by decide +kernel
theorem dX6_hearAck_21 : decode cX6_hearAck 21 = .ok (.getfield 129, 3) := by decide +kernel
theorem dX6_hearAck_24 : decode cX6_hearAck 24 = .ok (.ifCond .ne 20, 3) := by decide +kernel
theorem dX6_hearAck_27 : decode cX6_hearAck 27 = .ok (.aload_n 1, 1) := by decide +kernel
theorem dX6_hearAck_28 : decode cX6_hearAck 28 = .ok (.getfield 73, 3) := by decide +kernel
theorem dX6_hearAck_31 : decode cX6_hearAck 31 = .ok (.getfield 77, 3) := by decide +kernel
theorem dX6_hearAck_34 : decode cX6_hearAck 34 = .ok (.aload_n 2, 1) := by decide +kernel
theorem dX6_hearAck_35 : decode cX6_hearAck 35 = .ok (.getfield 126, 3) := by decide +kernel
theorem dX6_hearAck_38 : decode cX6_hearAck 38 = .ok (.aload_n 2, 1) := by decide +kernel
theorem dX6_hearAck_39 : decode cX6_hearAck 39 = .ok (.getfield 63, 3) := by decide +kernel
theorem dX6_hearAck_42 : decode cX6_hearAck 42 = .ok (.iastore, 1) := by decide +kernel
theorem dX6_hearAck_43 : decode cX6_hearAck 43 = .ok (.return_, 1) := by decide +kernel
theorem dX6_hearAck_44 : decode cX6_hearAck 44 = .ok (.aload_n 1, 1) := by decide +kernel
theorem dX6_hearAck_45 : decode cX6_hearAck 45 = .ok (.getfield 73, 3) := by decide +kernel
theorem dX6_hearAck_48 : decode cX6_hearAck 48 = .ok (.aload_n 2, 1) := by decide +kernel
theorem dX6_hearAck_49 : decode cX6_hearAck 49 = .ok (.getfield 126, 3) := by decide +kernel
theorem dX6_hearAck_52 : decode cX6_hearAck 52 = .ok (.aload_n 2, 1) := by decide +kernel
theorem dX6_hearAck_53 : decode cX6_hearAck 53 = .ok (.getfield 63, 3) := by decide +kernel
theorem dX6_hearAck_56 : decode cX6_hearAck 56 = .ok (.invokevirtual 178, 3) := by decide +kernel
theorem dX6_hearAck_59 : decode cX6_hearAck 59 = .ok (.aload_n 0, 1) := by decide +kernel
theorem dX6_hearAck_60 : decode cX6_hearAck 60 = .ok (.aload_n 1, 1) := by decide +kernel
theorem dX6_hearAck_61 : decode cX6_hearAck 61 = .ok (.invokevirtual 182, 3) := by decide +kernel
theorem dX6_hearAck_64 : decode cX6_hearAck 64 = .ok (.aload_n 1, 1) := by decide +kernel
theorem dX6_hearAck_65 : decode cX6_hearAck 65 = .ok (.getfield 73, 3) := by decide +kernel
theorem dX6_hearAck_68 : decode cX6_hearAck 68 = .ok (.aload_n 2, 1) := by decide +kernel
theorem dX6_hearAck_69 : decode cX6_hearAck 69 = .ok (.getfield 126, 3) := by decide +kernel
theorem dX6_hearAck_72 : decode cX6_hearAck 72 = .ok (.aload_n 2, 1) := by decide +kernel
theorem dX6_hearAck_73 : decode cX6_hearAck 73 = .ok (.getfield 94, 3) := by decide +kernel
theorem dX6_hearAck_76 : decode cX6_hearAck 76 = .ok (.invokevirtual 186, 3) := by decide +kernel
theorem dX6_hearAck_79 : decode cX6_hearAck 79 = .ok (.aload_n 0, 1) := by decide +kernel
theorem dX6_hearAck_80 : decode cX6_hearAck 80 = .ok (.aload_n 1, 1) := by decide +kernel
theorem dX6_hearAck_81 : decode cX6_hearAck 81 = .ok (.invokevirtual 189, 3) := by decide +kernel
theorem dX6_hearAck_84 : decode cX6_hearAck 84 = .ok (.return_, 1) := by decide +kernel
theorem dX6_commitWhatMostKnow_0 : decode cX6_commitWhatMostKnow 0 = .ok (.aload_n 1, 1) := by decide +kernel
theorem dX6_commitWhatMostKnow_1 : decode cX6_commitWhatMostKnow 1 = .ok (.getfield 54, 3) := by decide +kernel
theorem dX6_commitWhatMostKnow_4 : decode cX6_commitWhatMostKnow 4 = .ok (.getfield 58, 3) := by decide +kernel
theorem dX6_commitWhatMostKnow_7 : decode cX6_commitWhatMostKnow 7 = .ok (.istore_n 2, 1) := by decide +kernel
theorem dX6_commitWhatMostKnow_8 : decode cX6_commitWhatMostKnow 8 = .ok (.iload_n 2, 1) := by decide +kernel
theorem dX6_commitWhatMostKnow_9 : decode cX6_commitWhatMostKnow 9 = .ok (.aload_n 1, 1) := by decide +kernel
theorem dX6_commitWhatMostKnow_10 : decode cX6_commitWhatMostKnow 10 = .ok (.getfield 87, 3) := by decide +kernel
theorem dX6_commitWhatMostKnow_13 : decode cX6_commitWhatMostKnow 13 = .ok (.if_icmp .le 50, 3) := by decide +kernel
theorem dX6_commitWhatMostKnow_16 : decode cX6_commitWhatMostKnow 16 = .ok (.aload_n 1, 1) := by decide +kernel
theorem dX6_commitWhatMostKnow_17 : decode cX6_commitWhatMostKnow 17 = .ok (.getfield 73, 3) := by decide +kernel
theorem dX6_commitWhatMostKnow_20 : decode cX6_commitWhatMostKnow 20 = .ok (.iload_n 2, 1) := by decide +kernel
theorem dX6_commitWhatMostKnow_21 : decode cX6_commitWhatMostKnow 21 = .ok (.invokevirtual 192, 3) := by decide +kernel
theorem dX6_commitWhatMostKnow_24 : decode cX6_commitWhatMostKnow 24 = .ok (.iconst 1, 1) := by decide +kernel
theorem dX6_commitWhatMostKnow_25 : decode cX6_commitWhatMostKnow 25 = .ok (.iadd, 1) := by decide +kernel
theorem dX6_commitWhatMostKnow_26 : decode cX6_commitWhatMostKnow 26 = .ok (.aload_n 0, 1) := by decide +kernel
theorem dX6_commitWhatMostKnow_27 : decode cX6_commitWhatMostKnow 27 = .ok (.getfield 15, 3) := by decide +kernel
theorem dX6_commitWhatMostKnow_30 : decode cX6_commitWhatMostKnow 30 = .ok (.invokevirtual 195, 3) := by decide +kernel
theorem dX6_commitWhatMostKnow_33 : decode cX6_commitWhatMostKnow 33 = .ok (.if_icmp .lt 24, 3) := by decide +kernel
theorem dX6_commitWhatMostKnow_36 : decode cX6_commitWhatMostKnow 36 = .ok (.aload_n 1, 1) := by decide +kernel
theorem dX6_commitWhatMostKnow_37 : decode cX6_commitWhatMostKnow 37 = .ok (.getfield 54, 3) := by decide +kernel
theorem dX6_commitWhatMostKnow_40 : decode cX6_commitWhatMostKnow 40 = .ok (.iload_n 2, 1) := by decide +kernel
theorem dX6_commitWhatMostKnow_41 : decode cX6_commitWhatMostKnow 41 = .ok (.invokevirtual 66, 3) := by decide +kernel
theorem dX6_commitWhatMostKnow_44 : decode cX6_commitWhatMostKnow 44 = .ok (.aload_n 1, 1) := by decide +kernel
theorem dX6_commitWhatMostKnow_45 : decode cX6_commitWhatMostKnow 45 = .ok (.getfield 27, 3) := by decide +kernel
theorem dX6_commitWhatMostKnow_48 : decode cX6_commitWhatMostKnow 48 = .ok (.if_icmp .ne 8, 3) := by decide +kernel
theorem dX6_commitWhatMostKnow_51 : decode cX6_commitWhatMostKnow 51 = .ok (.aload_n 1, 1) := by decide +kernel
theorem dX6_commitWhatMostKnow_52 : decode cX6_commitWhatMostKnow 52 = .ok (.iload_n 2, 1) := by decide +kernel
theorem dX6_commitWhatMostKnow_53 : decode cX6_commitWhatMostKnow 53 = .ok (.putfield 87, 3) := by decide +kernel
theorem dX6_commitWhatMostKnow_56 : decode cX6_commitWhatMostKnow 56 = .ok (.return_, 1) := by decide +kernel
theorem dX6_commitWhatMostKnow_57 : decode cX6_commitWhatMostKnow 57 = .ok (.iinc 2 (-1), 3) := by decide +kernel
theorem dX6_commitWhatMostKnow_60 : decode cX6_commitWhatMostKnow 60 = .ok (.goto (-52), 3) := by decide +kernel
theorem dX6_commitWhatMostKnow_63 : decode cX6_commitWhatMostKnow 63 = .ok (.return_, 1) := by decide +kernel
theorem dX6_renewLease_0 : decode cX6_renewLease 0 = .ok (.aload_n 0, 1) := by decide +kernel
theorem dX6_renewLease_1 : decode cX6_renewLease 1 = .ok (.getfield 15, 3) := by decide +kernel
theorem dX6_renewLease_4 : decode cX6_renewLease 4 = .ok (.aload_n 1, 1) := by decide +kernel
theorem dX6_renewLease_5 : decode cX6_renewLease 5 = .ok (.getfield 73, 3) := by decide +kernel
theorem dX6_renewLease_8 : decode cX6_renewLease 8 = .ok (.getfield 199, 3) := by decide +kernel
theorem dX6_renewLease_11 : decode cX6_renewLease 11 = .ok (.iconst 1, 1) := by decide +kernel
theorem dX6_renewLease_12 : decode cX6_renewLease 12 = .ok (.aload_n 1, 1) := by decide +kernel
theorem dX6_renewLease_13 : decode cX6_renewLease 13 = .ok (.getfield 33, 3) := by decide +kernel
theorem dX6_renewLease_16 : decode cX6_renewLease 16 = .ok (.ishl, 1) := by decide +kernel
theorem dX6_renewLease_17 : decode cX6_renewLease 17 = .ok (.ior, 1) := by decide +kernel
theorem dX6_renewLease_18 : decode cX6_renewLease 18 = .ok (.invokevirtual 133, 3) := by decide +kernel
theorem dX6_renewLease_21 : decode cX6_renewLease 21 = .ok (.ifCond .eq 46, 3) := by decide +kernel
theorem dX6_renewLease_24 : decode cX6_renewLease 24 = .ok (.aload_n 1, 1) := by decide +kernel
theorem dX6_renewLease_25 : decode cX6_renewLease 25 = .ok (.getfield 73, 3) := by decide +kernel
theorem dX6_renewLease_28 : decode cX6_renewLease 28 = .ok (.iconst 1, 1) := by decide +kernel
theorem dX6_renewLease_29 : decode cX6_renewLease 29 = .ok (.putfield 202, 3) := by decide +kernel
theorem dX6_renewLease_32 : decode cX6_renewLease 32 = .ok (.aload_n 1, 1) := by decide +kernel
theorem dX6_renewLease_33 : decode cX6_renewLease 33 = .ok (.getfield 73, 3) := by decide +kernel
theorem dX6_renewLease_36 : decode cX6_renewLease 36 = .ok (.aload_n 1, 1) := by decide +kernel
theorem dX6_renewLease_37 : decode cX6_renewLease 37 = .ok (.getfield 73, 3) := by decide +kernel
theorem dX6_renewLease_40 : decode cX6_renewLease 40 = .ok (.aload_n 0, 1) := by decide +kernel
theorem dX6_renewLease_41 : decode cX6_renewLease 41 = .ok (.getfield 15, 3) := by decide +kernel
theorem dX6_renewLease_44 : decode cX6_renewLease 44 = .ok (.invokevirtual 195, 3) := by decide +kernel
theorem dX6_renewLease_47 : decode cX6_renewLease 47 = .ok (.iconst 1, 1) := by decide +kernel
theorem dX6_renewLease_48 : decode cX6_renewLease 48 = .ok (.isub, 1) := by decide +kernel
theorem dX6_renewLease_49 : decode cX6_renewLease 49 = .ok (.invokevirtual 205, 3) := by decide +kernel
theorem dX6_renewLease_52 : decode cX6_renewLease 52 = .ok (.aload_n 0, 1) := by decide +kernel
theorem dX6_renewLease_53 : decode cX6_renewLease 53 = .ok (.getfield 20, 3) := by decide +kernel
theorem dX6_renewLease_56 : decode cX6_renewLease 56 = .ok (.fconst 1, 1) := by decide +kernel
theorem dX6_renewLease_57 : decode cX6_renewLease 57 = .ok (.aload_n 0, 1) := by decide +kernel
theorem dX6_renewLease_58 : decode cX6_renewLease 58 = .ok (.getfield 24, 3) := by decide +kernel
theorem dX6_renewLease_61 : decode cX6_renewLease 61 = .ok (.fsub, 1) := by decide +kernel
theorem dX6_renewLease_62 : decode cX6_renewLease 62 = .ok (.fmul, 1) := by decide +kernel
theorem dX6_renewLease_63 : decode cX6_renewLease 63 = .ok (.fadd, 1) := by decide +kernel
theorem dX6_renewLease_64 : decode cX6_renewLease 64 = .ok (.putfield 209, 3) := by decide +kernel
theorem dX6_renewLease_67 : decode cX6_renewLease 67 = .ok (.return_, 1) := by decide +kernel
theorem dX7_init_0 : decode cX7_init 0 = .ok (.aload_n 0, 1) := by decide +kernel
theorem dX7_init_1 : decode cX7_init 1 = .ok (.invokespecial 3, 3) := by decide +kernel
theorem dX7_init_4 : decode cX7_init 4 = .ok (.aload_n 0, 1) := by decide +kernel
theorem dX7_init_5 : decode cX7_init 5 = .ok (.bipush 30, 2) := by decide +kernel
theorem dX7_init_7 : decode cX7_init 7 = .ok (.anewarray 9, 3) := by decide +kernel
theorem dX7_init_10 : decode cX7_init 10 = .ok (.putfield 11, 3) := by decide +kernel
theorem dX7_init_13 : decode cX7_init 13 = .ok (.return_, 1) := by decide +kernel
theorem dX7_isFull_0 : decode cX7_isFull 0 = .ok (.aload_n 0, 1) := by decide +kernel
theorem dX7_isFull_1 : decode cX7_isFull 1 = .ok (.getfield 17, 3) := by decide +kernel
theorem dX7_isFull_4 : decode cX7_isFull 4 = .ok (.bipush 30, 2) := by decide +kernel
theorem dX7_isFull_6 : decode cX7_isFull 6 = .ok (.if_icmp .lt 7, 3) := by decide +kernel
theorem dX7_isFull_9 : decode cX7_isFull 9 = .ok (.iconst 1, 1) := by decide +kernel
theorem dX7_isFull_10 : decode cX7_isFull 10 = .ok (.goto 4, 3) := by decide +kernel
theorem dX7_isFull_13 : decode cX7_isFull 13 = .ok (.iconst 0, 1) := by decide +kernel
theorem dX7_isFull_14 : decode cX7_isFull 14 = .ok (.ireturn, 1) := by decide +kernel
theorem dX7_at_0 : decode cX7_at 0 = .ok (.iload_n 1, 1) := by decide +kernel
theorem dX7_at_1 : decode cX7_at 1 = .ok (.iconst 1, 1) := by decide +kernel
theorem dX7_at_2 : decode cX7_at 2 = .ok (.if_icmp .lt 22, 3) := by decide +kernel
theorem dX7_at_5 : decode cX7_at 5 = .ok (.iload_n 1, 1) := by decide +kernel
theorem dX7_at_6 : decode cX7_at 6 = .ok (.aload_n 0, 1) := by decide +kernel
theorem dX7_at_7 : decode cX7_at 7 = .ok (.getfield 17, 3) := by decide +kernel
theorem dX7_at_10 : decode cX7_at 10 = .ok (.if_icmp .gt 14, 3) := by decide +kernel
theorem dX7_at_13 : decode cX7_at 13 = .ok (.aload_n 0, 1) := by decide +kernel
theorem dX7_at_14 : decode cX7_at 14 = .ok (.getfield 11, 3) := by decide +kernel
theorem dX7_at_17 : decode cX7_at 17 = .ok (.iload_n 1, 1) := by decide +kernel
theorem dX7_at_18 : decode cX7_at 18 = .ok (.iconst 1, 1) := by decide +kernel
theorem dX7_at_19 : decode cX7_at 19 = .ok (.isub, 1) := by decide +kernel
theorem dX7_at_20 : decode cX7_at 20 = .ok (.aaload, 1) := by decide +kernel
theorem dX7_at_21 : decode cX7_at 21 = .ok (.goto 4, 3) := by decide +kernel
theorem dX7_at_24 : decode cX7_at 24 = .ok (.aconst_null, 1) := by decide +kernel
theorem dX7_at_25 : decode cX7_at 25 = .ok (.areturn, 1) := by decide +kernel
theorem dX7_termAt_0 : decode cX7_termAt 0 = .ok (.aload_n 0, 1) := by decide +kernel
theorem dX7_termAt_1 : decode cX7_termAt 1 = .ok (.iload_n 1, 1) := by decide +kernel
theorem dX7_termAt_2 : decode cX7_termAt 2 = .ok (.invokevirtual 21, 3) := by decide +kernel
theorem dX7_termAt_5 : decode cX7_termAt 5 = .ok (.astore_n 2, 1) := by decide +kernel
theorem dX7_termAt_6 : decode cX7_termAt 6 = .ok (.aload_n 2, 1) := by decide +kernel
theorem dX7_termAt_7 : decode cX7_termAt 7 = .ok (.ifnonnull 7, 3) := by decide +kernel
theorem dX7_termAt_10 : decode cX7_termAt 10 = .ok (.iconst 0, 1) := by decide +kernel
theorem dX7_termAt_11 : decode cX7_termAt 11 = .ok (.goto 7, 3) := by decide +kernel
theorem dX7_termAt_14 : decode cX7_termAt 14 = .ok (.aload_n 2, 1) := by decide +kernel
theorem dX7_termAt_15 : decode cX7_termAt 15 = .ok (.getfield 25, 3) := by decide +kernel
theorem dX7_termAt_18 : decode cX7_termAt 18 = .ok (.ireturn, 1) := by decide +kernel
theorem dX7_put_0 : decode cX7_put 0 = .ok (.aload_n 0, 1) := by decide +kernel
theorem dX7_put_1 : decode cX7_put 1 = .ok (.getfield 17, 3) := by decide +kernel
theorem dX7_put_4 : decode cX7_put 4 = .ok (.bipush 30, 2) := by decide +kernel
theorem dX7_put_6 : decode cX7_put 6 = .ok (.if_icmp .ge 23, 3) := by decide +kernel
theorem dX7_put_9 : decode cX7_put 9 = .ok (.aload_n 0, 1) := by decide +kernel
theorem dX7_put_10 : decode cX7_put 10 = .ok (.getfield 11, 3) := by decide +kernel
theorem dX7_put_13 : decode cX7_put 13 = .ok (.aload_n 0, 1) := by decide +kernel
theorem dX7_put_14 : decode cX7_put 14 = .ok (.getfield 17, 3) := by decide +kernel
theorem dX7_put_17 : decode cX7_put 17 = .ok (.aload_n 1, 1) := by decide +kernel
theorem dX7_put_18 : decode cX7_put 18 = .ok (.aastore, 1) := by decide +kernel
theorem dX7_put_19 : decode cX7_put 19 = .ok (.aload_n 0, 1) := by decide +kernel
theorem dX7_put_20 : decode cX7_put 20 = .ok (.dup, 1) := by decide +kernel
theorem dX7_put_21 : decode cX7_put 21 = .ok (.getfield 17, 3) := by decide +kernel
theorem dX7_put_24 : decode cX7_put 24 = .ok (.iconst 1, 1) := by decide +kernel
theorem dX7_put_25 : decode cX7_put 25 = .ok (.iadd, 1) := by decide +kernel
theorem dX7_put_26 : decode cX7_put 26 = .ok (.putfield 17, 3) := by decide +kernel
theorem dX7_put_29 : decode cX7_put 29 = .ok (.return_, 1) := by decide +kernel
theorem dX7_cutBehind_0 : decode cX7_cutBehind 0 = .ok (.iload_n 1, 1) := by decide +kernel
theorem dX7_cutBehind_1 : decode cX7_cutBehind 1 = .ok (.ifCond .lt 16, 3) := by decide +kernel
theorem dX7_cutBehind_4 : decode cX7_cutBehind 4 = .ok (.iload_n 1, 1) := by decide +kernel
theorem dX7_cutBehind_5 : decode cX7_cutBehind 5 = .ok (.aload_n 0, 1) := by decide +kernel
theorem dX7_cutBehind_6 : decode cX7_cutBehind 6 = .ok (.getfield 17, 3) := by decide +kernel
theorem dX7_cutBehind_9 : decode cX7_cutBehind 9 = .ok (.if_icmp .ge 8, 3) := by decide +kernel
theorem dX7_cutBehind_12 : decode cX7_cutBehind 12 = .ok (.aload_n 0, 1) := by decide +kernel
theorem dX7_cutBehind_13 : decode cX7_cutBehind 13 = .ok (.iload_n 1, 1) := by decide +kernel
theorem dX7_cutBehind_14 : decode cX7_cutBehind 14 = .ok (.putfield 17, 3) := by decide +kernel
theorem dX7_cutBehind_17 : decode cX7_cutBehind 17 = .ok (.return_, 1) := by decide +kernel
theorem dX7_numberOf_0 : decode cX7_numberOf 0 = .ok (.iconst 0, 1) := by decide +kernel
theorem dX7_numberOf_1 : decode cX7_numberOf 1 = .ok (.istore_n 3, 1) := by decide +kernel
theorem dX7_numberOf_2 : decode cX7_numberOf 2 = .ok (.iload_n 3, 1) := by decide +kernel
theorem dX7_numberOf_3 : decode cX7_numberOf 3 = .ok (.aload_n 0, 1) := by decide +kernel
theorem dX7_numberOf_4 : decode cX7_numberOf 4 = .ok (.getfield 17, 3) := by decide +kernel
theorem dX7_numberOf_7 : decode cX7_numberOf 7 = .ok (.if_icmp .ge 39, 3) := by decide +kernel
theorem dX7_numberOf_10 : decode cX7_numberOf 10 = .ok (.aload_n 0, 1) := by decide +kernel
theorem dX7_numberOf_11 : decode cX7_numberOf 11 = .ok (.getfield 11, 3) := by decide +kernel
theorem dX7_numberOf_14 : decode cX7_numberOf 14 = .ok (.iload_n 3, 1) := by decide +kernel
theorem dX7_numberOf_15 : decode cX7_numberOf 15 = .ok (.aaload, 1) := by decide +kernel
theorem dX7_numberOf_16 : decode cX7_numberOf 16 = .ok (.getfield 28, 3) := by decide +kernel
theorem dX7_numberOf_19 : decode cX7_numberOf 19 = .ok (.iload_n 1, 1) := by decide +kernel
theorem dX7_numberOf_20 : decode cX7_numberOf 20 = .ok (.if_icmp .ne 20, 3) := by decide +kernel
theorem dX7_numberOf_23 : decode cX7_numberOf 23 = .ok (.aload_n 0, 1) := by decide +kernel
theorem dX7_numberOf_24 : decode cX7_numberOf 24 = .ok (.getfield 11, 3) := by decide +kernel
theorem dX7_numberOf_27 : decode cX7_numberOf 27 = .ok (.iload_n 3, 1) := by decide +kernel
theorem dX7_numberOf_28 : decode cX7_numberOf 28 = .ok (.aaload, 1) := by decide +kernel
theorem dX7_numberOf_29 : decode cX7_numberOf 29 = .ok (.getfield 31, 3) := by decide +kernel
theorem dX7_numberOf_32 : decode cX7_numberOf 32 = .ok (.iload_n 2, 1) := by decide +kernel
theorem dX7_numberOf_33 : decode cX7_numberOf 33 = .ok (.if_icmp .ne 7, 3) := by decide +kernel
theorem dX7_numberOf_36 : decode cX7_numberOf 36 = .ok (.iload_n 3, 1) := by decide +kernel
theorem dX7_numberOf_37 : decode cX7_numberOf 37 = .ok (.iconst 1, 1) := by decide +kernel
theorem dX7_numberOf_38 : decode cX7_numberOf 38 = .ok (.iadd, 1) := by decide +kernel
theorem dX7_numberOf_39 : decode cX7_numberOf 39 = .ok (.ireturn, 1) := by decide +kernel
theorem dX7_numberOf_40 : decode cX7_numberOf 40 = .ok (.iinc 3 1, 3) := by decide +kernel
theorem dX7_numberOf_43 : decode cX7_numberOf 43 = .ok (.goto (-41), 3) := by decide +kernel
theorem dX7_numberOf_46 : decode cX7_numberOf 46 = .ok (.iconst 0, 1) := by decide +kernel
theorem dX7_numberOf_47 : decode cX7_numberOf 47 = .ok (.ireturn, 1) := by decide +kernel
theorem dX7_hasSerial_0 : decode cX7_hasSerial 0 = .ok (.aload_n 0, 1) := by decide +kernel
theorem dX7_hasSerial_1 : decode cX7_hasSerial 1 = .ok (.iload_n 1, 1) := by decide +kernel
theorem dX7_hasSerial_2 : decode cX7_hasSerial 2 = .ok (.iload_n 2, 1) := by decide +kernel
theorem dX7_hasSerial_3 : decode cX7_hasSerial 3 = .ok (.aload_n 0, 1) := by decide +kernel
theorem dX7_hasSerial_4 : decode cX7_hasSerial 4 = .ok (.getfield 17, 3) := by decide +kernel
theorem dX7_hasSerial_7 : decode cX7_hasSerial 7 = .ok (.invokevirtual 34, 3) := by decide +kernel
theorem dX7_hasSerial_10 : decode cX7_hasSerial 10 = .ok (.ireturn, 1) := by decide +kernel
theorem dX7_valueUpTo_0 : decode cX7_valueUpTo 0 = .ok (.iload_n 1, 1) := by decide +kernel
theorem dX7_valueUpTo_1 : decode cX7_valueUpTo 1 = .ok (.aload_n 0, 1) := by decide +kernel
theorem dX7_valueUpTo_2 : decode cX7_valueUpTo 2 = .ok (.getfield 17, 3) := by decide +kernel
theorem dX7_valueUpTo_5 : decode cX7_valueUpTo 5 = .ok (.invokestatic 38, 3) := by decide +kernel
theorem dX7_valueUpTo_8 : decode cX7_valueUpTo 8 = .ok (.istore_n 2, 1) := by decide +kernel
theorem dX7_valueUpTo_9 : decode cX7_valueUpTo 9 = .ok (.iload_n 2, 1) := by decide +kernel
theorem dX7_valueUpTo_10 : decode cX7_valueUpTo 10 = .ok (.iconst 1, 1) := by decide +kernel
theorem dX7_valueUpTo_11 : decode cX7_valueUpTo 11 = .ok (.if_icmp .lt 41, 3) := by decide +kernel
theorem dX7_valueUpTo_14 : decode cX7_valueUpTo 14 = .ok (.aload_n 0, 1) := by decide +kernel
theorem dX7_valueUpTo_15 : decode cX7_valueUpTo 15 = .ok (.getfield 11, 3) := by decide +kernel
theorem dX7_valueUpTo_18 : decode cX7_valueUpTo 18 = .ok (.iload_n 2, 1) := by decide +kernel
theorem dX7_valueUpTo_19 : decode cX7_valueUpTo 19 = .ok (.iconst 1, 1) := by decide +kernel
theorem dX7_valueUpTo_20 : decode cX7_valueUpTo 20 = .ok (.isub, 1) := by decide +kernel
theorem dX7_valueUpTo_21 : decode cX7_valueUpTo 21 = .ok (.aaload, 1) := by decide +kernel
theorem dX7_valueUpTo_22 : decode cX7_valueUpTo 22 = .ok (.astore_n 3, 1) := by decide +kernel
theorem dX7_valueUpTo_23 : decode cX7_valueUpTo 23 = .ok (.aload_n 0, 1) := by decide +kernel
theorem dX7_valueUpTo_24 : decode cX7_valueUpTo 24 = .ok (.aload_n 3, 1) := by decide +kernel
theorem dX7_valueUpTo_25 : decode cX7_valueUpTo 25 = .ok (.getfield 28, 3) := by decide +kernel
theorem dX7_valueUpTo_28 : decode cX7_valueUpTo 28 = .ok (.aload_n 3, 1) := by decide +kernel
theorem dX7_valueUpTo_29 : decode cX7_valueUpTo 29 = .ok (.getfield 31, 3) := by decide +kernel
theorem dX7_valueUpTo_32 : decode cX7_valueUpTo 32 = .ok (.iload_n 2, 1) := by decide +kernel
theorem dX7_valueUpTo_33 : decode cX7_valueUpTo 33 = .ok (.iconst 1, 1) := by decide +kernel
theorem dX7_valueUpTo_34 : decode cX7_valueUpTo 34 = .ok (.isub, 1) := by decide +kernel
theorem dX7_valueUpTo_35 : decode cX7_valueUpTo 35 = .ok (.invokevirtual 34, 3) := by decide +kernel
theorem dX7_valueUpTo_38 : decode cX7_valueUpTo 38 = .ok (.ifCond .ne 8, 3) := by decide +kernel
theorem dX7_valueUpTo_41 : decode cX7_valueUpTo 41 = .ok (.aload_n 3, 1) := by decide +kernel
theorem dX7_valueUpTo_42 : decode cX7_valueUpTo 42 = .ok (.getfield 44, 3) := by decide +kernel
theorem dX7_valueUpTo_45 : decode cX7_valueUpTo 45 = .ok (.ireturn, 1) := by decide +kernel
theorem dX7_valueUpTo_46 : decode cX7_valueUpTo 46 = .ok (.iinc 2 (-1), 3) := by decide +kernel
theorem dX7_valueUpTo_49 : decode cX7_valueUpTo 49 = .ok (.goto (-40), 3) := by decide +kernel
theorem dX7_valueUpTo_52 : decode cX7_valueUpTo 52 = .ok (.iconst 0, 1) := by decide +kernel
theorem dX7_valueUpTo_53 : decode cX7_valueUpTo 53 = .ok (.ireturn, 1) := by decide +kernel
theorem dX7_isLikeUpTo_0 : decode cX7_isLikeUpTo 0 = .ok (.iload_n 2, 1) := by decide +kernel
theorem dX7_isLikeUpTo_1 : decode cX7_isLikeUpTo 1 = .ok (.aload_n 0, 1) := by decide +kernel
theorem dX7_isLikeUpTo_2 : decode cX7_isLikeUpTo 2 = .ok (.getfield 17, 3) := by decide +kernel
theorem dX7_isLikeUpTo_5 : decode cX7_isLikeUpTo 5 = .ok (.aload_n 1, 1) := by decide +kernel
theorem dX7_isLikeUpTo_6 : decode cX7_isLikeUpTo 6 = .ok (.getfield 17, 3) := by decide +kernel
theorem dX7_isLikeUpTo_9 : decode cX7_isLikeUpTo 9 = .ok (.invokestatic 38, 3) := by decide +kernel
theorem dX7_isLikeUpTo_12 : decode cX7_isLikeUpTo 12 = .ok (.invokestatic 38, 3) := by decide +kernel
theorem dX7_isLikeUpTo_15 : decode cX7_isLikeUpTo 15 = .ok (.istore_n 3, 1) := by decide +kernel
theorem dX7_isLikeUpTo_16 : decode cX7_isLikeUpTo 16 = .ok (.iconst 0, 1) := by decide +kernel
theorem dX7_isLikeUpTo_17 : decode cX7_isLikeUpTo 17 = .ok (.istore 4, 2) := by decide +kernel
theorem dX7_isLikeUpTo_19 : decode cX7_isLikeUpTo 19 = .ok (.iload 4, 2) := by decide +kernel
theorem dX7_isLikeUpTo_21 : decode cX7_isLikeUpTo 21 = .ok (.iload_n 3, 1) := by decide +kernel
theorem dX7_isLikeUpTo_22 : decode cX7_isLikeUpTo 22 = .ok (.if_icmp .ge 31, 3) := by decide +kernel
theorem dX7_isLikeUpTo_25 : decode cX7_isLikeUpTo 25 = .ok (.aload_n 0, 1) := by decide +kernel
theorem dX7_isLikeUpTo_26 : decode cX7_isLikeUpTo 26 = .ok (.getfield 11, 3) := by decide +kernel
theorem dX7_isLikeUpTo_29 : decode cX7_isLikeUpTo 29 = .ok (.iload 4, 2) := by decide +kernel
theorem dX7_isLikeUpTo_31 : decode cX7_isLikeUpTo 31 = .ok (.aaload, 1) := by decide +kernel
theorem dX7_isLikeUpTo_32 : decode cX7_isLikeUpTo 32 = .ok (.aload_n 1, 1) := by decide +kernel
theorem dX7_isLikeUpTo_33 : decode cX7_isLikeUpTo 33 = .ok (.getfield 11, 3) := by decide +kernel
theorem dX7_isLikeUpTo_36 : decode cX7_isLikeUpTo 36 = .ok (.iload 4, 2) := by decide +kernel
theorem dX7_isLikeUpTo_38 : decode cX7_isLikeUpTo 38 = .ok (.aaload, 1) := by decide +kernel
theorem dX7_isLikeUpTo_39 : decode cX7_isLikeUpTo 39 = .ok (.invokevirtual 47, 3) := by decide +kernel
theorem dX7_isLikeUpTo_42 : decode cX7_isLikeUpTo 42 = .ok (.ifCond .ne 5, 3) := by decide +kernel
theorem dX7_isLikeUpTo_45 : decode cX7_isLikeUpTo 45 = .ok (.iconst 0, 1) := by decide +kernel
theorem dX7_isLikeUpTo_46 : decode cX7_isLikeUpTo 46 = .ok (.ireturn, 1) := by decide +kernel
theorem dX7_isLikeUpTo_47 : decode cX7_isLikeUpTo 47 = .ok (.iinc 4 1, 3) := by decide +kernel
theorem dX7_isLikeUpTo_50 : decode cX7_isLikeUpTo 50 = .ok (.goto (-31), 3) := by decide +kernel
theorem dX7_isLikeUpTo_53 : decode cX7_isLikeUpTo 53 = .ok (.iconst 1, 1) := by decide +kernel
theorem dX7_isLikeUpTo_54 : decode cX7_isLikeUpTo 54 = .ok (.ireturn, 1) := by decide +kernel
theorem dX7_isOutdone_0 : decode cX7_isOutdone 0 = .ok (.iconst 0, 1) := by decide +kernel
theorem dX7_isOutdone_1 : decode cX7_isOutdone 1 = .ok (.istore 4, 2) := by decide +kernel
theorem dX7_isOutdone_3 : decode cX7_isOutdone 3 = .ok (.iload 4, 2) := by decide +kernel
theorem dX7_isOutdone_5 : decode cX7_isOutdone 5 = .ok (.iload_n 3, 1) := by decide +kernel
theorem dX7_isOutdone_6 : decode cX7_isOutdone 6 = .ok (.if_icmp .ge 35, 3) := by decide +kernel
theorem dX7_isOutdone_9 : decode cX7_isOutdone 9 = .ok (.iload 4, 2) := by decide +kernel
theorem dX7_isOutdone_11 : decode cX7_isOutdone 11 = .ok (.aload_n 0, 1) := by decide +kernel
theorem dX7_isOutdone_12 : decode cX7_isOutdone 12 = .ok (.getfield 17, 3) := by decide +kernel
theorem dX7_isOutdone_15 : decode cX7_isOutdone 15 = .ok (.if_icmp .ge 26, 3) := by decide +kernel
theorem dX7_isOutdone_18 : decode cX7_isOutdone 18 = .ok (.aload_n 0, 1) := by decide +kernel
theorem dX7_isOutdone_19 : decode cX7_isOutdone 19 = .ok (.getfield 11, 3) := by decide +kernel
theorem dX7_isOutdone_22 : decode cX7_isOutdone 22 = .ok (.iload 4, 2) := by decide +kernel
theorem dX7_isOutdone_24 : decode cX7_isOutdone 24 = .ok (.aaload, 1) := by decide +kernel
theorem dX7_isOutdone_25 : decode cX7_isOutdone 25 = .ok (.iload_n 1, 1) := by decide +kernel
theorem dX7_isOutdone_26 : decode cX7_isOutdone 26 = .ok (.iload_n 2, 1) := by decide +kernel
theorem dX7_isOutdone_27 : decode cX7_isOutdone 27 = .ok (.invokevirtual 51, 3) := by decide +kernel
theorem dX7_isOutdone_30 : decode cX7_isOutdone 30 = .ok (.ifCond .eq 5, 3) := by decide +kernel
theorem dX7_isOutdone_33 : decode cX7_isOutdone 33 = .ok (.iconst 1, 1) := by decide +kernel
theorem dX7_isOutdone_34 : decode cX7_isOutdone 34 = .ok (.ireturn, 1) := by decide +kernel
theorem dX7_isOutdone_35 : decode cX7_isOutdone 35 = .ok (.iinc 4 1, 3) := by decide +kernel
theorem dX7_isOutdone_38 : decode cX7_isOutdone 38 = .ok (.goto (-35), 3) := by decide +kernel
theorem dX7_isOutdone_41 : decode cX7_isOutdone 41 = .ok (.iconst 0, 1) := by decide +kernel
theorem dX7_isOutdone_42 : decode cX7_isOutdone 42 = .ok (.ireturn, 1) := by decide +kernel
theorem dX8_init_0 : decode cX8_init 0 = .ok (.aload_n 0, 1) := by decide +kernel
theorem dX8_init_1 : decode cX8_init 1 = .ok (.invokespecial 3, 3) := by decide +kernel
theorem dX8_init_4 : decode cX8_init 4 = .ok (.aload_n 0, 1) := by decide +kernel
theorem dX8_init_5 : decode cX8_init 5 = .ok (.new 9, 3) := by decide +kernel
theorem dX8_init_8 : decode cX8_init 8 = .ok (.dup, 1) := by decide +kernel
theorem dX8_init_9 : decode cX8_init 9 = .ok (.invokespecial 11, 3) := by decide +kernel
theorem dX8_init_12 : decode cX8_init 12 = .ok (.putfield 12, 3) := by decide +kernel
theorem dX8_init_15 : decode cX8_init 15 = .ok (.aload_n 0, 1) := by decide +kernel
theorem dX8_init_16 : decode cX8_init 16 = .ok (.new 18, 3) := by decide +kernel
theorem dX8_init_19 : decode cX8_init 19 = .ok (.dup, 1) := by decide +kernel
theorem dX8_init_20 : decode cX8_init 20 = .ok (.invokespecial 20, 3) := by decide +kernel
theorem dX8_init_23 : decode cX8_init 23 = .ok (.putfield 21, 3) := by decide +kernel
theorem dX8_init_26 : decode cX8_init 26 = .ok (.aload_n 0, 1) := by decide +kernel
theorem dX8_init_27 : decode cX8_init 27 = .ok (.iconst 4, 1) := by decide +kernel
theorem dX8_init_28 : decode cX8_init 28 = .ok (.anewarray 25, 3) := by decide +kernel
theorem dX8_init_31 : decode cX8_init 31 = .ok (.putfield 27, 3) := by decide +kernel
theorem dX8_init_34 : decode cX8_init 34 = .ok (.aload_n 0, 1) := by decide +kernel
theorem dX8_init_35 : decode cX8_init 35 = .ok (.iload_n 1, 1) := by decide +kernel
theorem dX8_init_36 : decode cX8_init 36 = .ok (.putfield 31, 3) := by decide +kernel
theorem dX8_init_39 : decode cX8_init 39 = .ok (.iconst 0, 1) := by decide +kernel
theorem dX8_init_40 : decode cX8_init 40 = .ok (.istore_n 2, 1) := by decide +kernel
theorem dX8_init_41 : decode cX8_init 41 = .ok (.iload_n 2, 1) := by decide +kernel
theorem dX8_init_42 : decode cX8_init 42 = .ok (.iconst 4, 1) := by decide +kernel
theorem dX8_init_43 : decode cX8_init 43 = .ok (.if_icmp .ge 22, 3) := by decide +kernel
theorem dX8_init_46 : decode cX8_init 46 = .ok (.aload_n 0, 1) := by decide +kernel
theorem dX8_init_47 : decode cX8_init 47 = .ok (.getfield 27, 3) := by decide +kernel
theorem dX8_init_50 : decode cX8_init 50 = .ok (.iload_n 2, 1) := by decide +kernel
theorem dX8_init_51 : decode cX8_init 51 = .ok (.new 25, 3) := by decide +kernel
theorem dX8_init_54 : decode cX8_init 54 = .ok (.dup, 1) := by decide +kernel
theorem dX8_init_55 : decode cX8_init 55 = .ok (.invokespecial 35, 3) := by decide +kernel
theorem dX8_init_58 : decode cX8_init 58 = .ok (.aastore, 1) := by decide +kernel
theorem dX8_init_59 : decode cX8_init 59 = .ok (.iinc 2 1, 3) := by decide +kernel
theorem dX8_init_62 : decode cX8_init 62 = .ok (.goto (-21), 3) := by decide +kernel
theorem dX8_init_65 : decode cX8_init 65 = .ok (.return_, 1) := by decide +kernel
theorem dX8_renew_0 : decode cX8_renew 0 = .ok (.aload_n 0, 1) := by decide +kernel
theorem dX8_renew_1 : decode cX8_renew 1 = .ok (.iconst 1, 1) := by decide +kernel
theorem dX8_renew_2 : decode cX8_renew 2 = .ok (.putfield 36, 3) := by decide +kernel
theorem dX8_renew_5 : decode cX8_renew 5 = .ok (.aload_n 0, 1) := by decide +kernel
theorem dX8_renew_6 : decode cX8_renew 6 = .ok (.fconst 0, 1) := by decide +kernel
theorem dX8_renew_7 : decode cX8_renew 7 = .ok (.putfield 40, 3) := by decide +kernel
theorem dX8_renew_10 : decode cX8_renew 10 = .ok (.aload_n 0, 1) := by decide +kernel
theorem dX8_renew_11 : decode cX8_renew 11 = .ok (.fconst 1, 1) := by decide +kernel
theorem dX8_renew_12 : decode cX8_renew 12 = .ok (.putfield 44, 3) := by decide +kernel
theorem dX8_renew_15 : decode cX8_renew 15 = .ok (.aload_n 0, 1) := by decide +kernel
theorem dX8_renew_16 : decode cX8_renew 16 = .ok (.iconst 0, 1) := by decide +kernel
theorem dX8_renew_17 : decode cX8_renew 17 = .ok (.putfield 47, 3) := by decide +kernel
theorem dX8_renew_20 : decode cX8_renew 20 = .ok (.aload_n 0, 1) := by decide +kernel
theorem dX8_renew_21 : decode cX8_renew 21 = .ok (.iconst (-1), 1) := by decide +kernel
theorem dX8_renew_22 : decode cX8_renew 22 = .ok (.putfield 50, 3) := by decide +kernel
theorem dX8_renew_25 : decode cX8_renew 25 = .ok (.aload_n 0, 1) := by decide +kernel
theorem dX8_renew_26 : decode cX8_renew 26 = .ok (.iconst 0, 1) := by decide +kernel
theorem dX8_renew_27 : decode cX8_renew 27 = .ok (.putfield 53, 3) := by decide +kernel
theorem dX8_renew_30 : decode cX8_renew 30 = .ok (.aload_n 0, 1) := by decide +kernel
theorem dX8_renew_31 : decode cX8_renew 31 = .ok (.iconst 0, 1) := by decide +kernel
theorem dX8_renew_32 : decode cX8_renew 32 = .ok (.putfield 56, 3) := by decide +kernel
theorem dX8_renew_35 : decode cX8_renew 35 = .ok (.aload_n 0, 1) := by decide +kernel
theorem dX8_renew_36 : decode cX8_renew 36 = .ok (.iconst (-1), 1) := by decide +kernel
theorem dX8_renew_37 : decode cX8_renew 37 = .ok (.putfield 59, 3) := by decide +kernel
theorem dX8_renew_40 : decode cX8_renew 40 = .ok (.aload_n 0, 1) := by decide +kernel
theorem dX8_renew_41 : decode cX8_renew 41 = .ok (.fconst 0, 1) := by decide +kernel
theorem dX8_renew_42 : decode cX8_renew 42 = .ok (.putfield 62, 3) := by decide +kernel
theorem dX8_renew_45 : decode cX8_renew 45 = .ok (.aload_n 0, 1) := by decide +kernel
theorem dX8_renew_46 : decode cX8_renew 46 = .ok (.getfield 12, 3) := by decide +kernel
theorem dX8_renew_49 : decode cX8_renew 49 = .ok (.iconst 0, 1) := by decide +kernel
theorem dX8_renew_50 : decode cX8_renew 50 = .ok (.invokevirtual 65, 3) := by decide +kernel
theorem dX8_renew_53 : decode cX8_renew 53 = .ok (.aload_n 0, 1) := by decide +kernel
theorem dX8_renew_54 : decode cX8_renew 54 = .ok (.invokevirtual 69, 3) := by decide +kernel
theorem dX8_renew_57 : decode cX8_renew 57 = .ok (.iconst 0, 1) := by decide +kernel
theorem dX8_renew_58 : decode cX8_renew 58 = .ok (.istore_n 1, 1) := by decide +kernel
theorem dX8_renew_59 : decode cX8_renew 59 = .ok (.iload_n 1, 1) := by decide +kernel
theorem dX8_renew_60 : decode cX8_renew 60 = .ok (.iconst 4, 1) := by decide +kernel
theorem dX8_renew_61 : decode cX8_renew 61 = .ok (.if_icmp .ge 18, 3) := by decide +kernel
theorem dX8_renew_64 : decode cX8_renew 64 = .ok (.aload_n 0, 1) := by decide +kernel
theorem dX8_renew_65 : decode cX8_renew 65 = .ok (.getfield 27, 3) := by decide +kernel
theorem dX8_renew_68 : decode cX8_renew 68 = .ok (.iload_n 1, 1) := by decide +kernel
theorem dX8_renew_69 : decode cX8_renew 69 = .ok (.aaload, 1) := by decide +kernel
theorem dX8_renew_70 : decode cX8_renew 70 = .ok (.invokevirtual 72, 3) := by decide +kernel
theorem dX8_renew_73 : decode cX8_renew 73 = .ok (.iinc 1 1, 3) := by decide +kernel
theorem dX8_renew_76 : decode cX8_renew 76 = .ok (.goto (-17), 3) := by decide +kernel
theorem dX8_renew_79 : decode cX8_renew 79 = .ok (.return_, 1) := by decide +kernel
theorem dX8_crash_0 : decode cX8_crash 0 = .ok (.aload_n 0, 1) := by decide +kernel
theorem dX8_crash_1 : decode cX8_crash 1 = .ok (.iconst 0, 1) := by decide +kernel
theorem dX8_crash_2 : decode cX8_crash 2 = .ok (.putfield 36, 3) := by decide +kernel
theorem dX8_crash_5 : decode cX8_crash 5 = .ok (.aload_n 0, 1) := by decide +kernel
theorem dX8_crash_6 : decode cX8_crash 6 = .ok (.iconst 0, 1) := by decide +kernel
theorem dX8_crash_7 : decode cX8_crash 7 = .ok (.putfield 53, 3) := by decide +kernel
theorem dX8_crash_10 : decode cX8_crash 10 = .ok (.aload_n 0, 1) := by decide +kernel
theorem dX8_crash_11 : decode cX8_crash 11 = .ok (.invokevirtual 69, 3) := by decide +kernel
theorem dX8_crash_14 : decode cX8_crash 14 = .ok (.iconst 0, 1) := by decide +kernel
theorem dX8_crash_15 : decode cX8_crash 15 = .ok (.istore_n 1, 1) := by decide +kernel
theorem dX8_crash_16 : decode cX8_crash 16 = .ok (.iload_n 1, 1) := by decide +kernel
theorem dX8_crash_17 : decode cX8_crash 17 = .ok (.iconst 4, 1) := by decide +kernel
theorem dX8_crash_18 : decode cX8_crash 18 = .ok (.if_icmp .ge 18, 3) := by decide +kernel
theorem dX8_crash_21 : decode cX8_crash 21 = .ok (.aload_n 0, 1) := by decide +kernel
theorem dX8_crash_22 : decode cX8_crash 22 = .ok (.getfield 27, 3) := by decide +kernel
theorem dX8_crash_25 : decode cX8_crash 25 = .ok (.iload_n 1, 1) := by decide +kernel
theorem dX8_crash_26 : decode cX8_crash 26 = .ok (.aaload, 1) := by decide +kernel
theorem dX8_crash_27 : decode cX8_crash 27 = .ok (.invokevirtual 75, 3) := by decide +kernel
theorem dX8_crash_30 : decode cX8_crash 30 = .ok (.iinc 1 1, 3) := by decide +kernel
theorem dX8_crash_33 : decode cX8_crash 33 = .ok (.goto (-17), 3) := by decide +kernel
theorem dX8_crash_36 : decode cX8_crash 36 = .ok (.return_, 1) := by decide +kernel
theorem dX8_rise_0 : decode cX8_rise 0 = .ok (.aload_n 0, 1) := by decide +kernel
theorem dX8_rise_1 : decode cX8_rise 1 = .ok (.iconst 1, 1) := by decide +kernel
theorem dX8_rise_2 : decode cX8_rise 2 = .ok (.putfield 36, 3) := by decide +kernel
theorem dX8_rise_5 : decode cX8_rise 5 = .ok (.aload_n 0, 1) := by decide +kernel
theorem dX8_rise_6 : decode cX8_rise 6 = .ok (.aload_n 0, 1) := by decide +kernel
theorem dX8_rise_7 : decode cX8_rise 7 = .ok (.getfield 31, 3) := by decide +kernel
theorem dX8_rise_10 : decode cX8_rise 10 = .ok (.fload_n 1, 1) := by decide +kernel
theorem dX8_rise_11 : decode cX8_rise 11 = .ok (.invokevirtual 78, 3) := by decide +kernel
theorem dX8_rise_14 : decode cX8_rise 14 = .ok (.return_, 1) := by decide +kernel
theorem dX8_letPass_0 : decode cX8_letPass 0 = .ok (.aload_n 0, 1) := by decide +kernel
theorem dX8_letPass_1 : decode cX8_letPass 1 = .ok (.aload_n 0, 1) := by decide +kernel
theorem dX8_letPass_2 : decode cX8_letPass 2 = .ok (.getfield 40, 3) := by decide +kernel
theorem dX8_letPass_5 : decode cX8_letPass 5 = .ok (.fload_n 1, 1) := by decide +kernel
theorem dX8_letPass_6 : decode cX8_letPass 6 = .ok (.aload_n 0, 1) := by decide +kernel
theorem dX8_letPass_7 : decode cX8_letPass 7 = .ok (.getfield 44, 3) := by decide +kernel
theorem dX8_letPass_10 : decode cX8_letPass 10 = .ok (.fmul, 1) := by decide +kernel
theorem dX8_letPass_11 : decode cX8_letPass 11 = .ok (.fadd, 1) := by decide +kernel
theorem dX8_letPass_12 : decode cX8_letPass 12 = .ok (.putfield 40, 3) := by decide +kernel
theorem dX8_letPass_15 : decode cX8_letPass 15 = .ok (.return_, 1) := by decide +kernel
theorem dX8_follow_0 : decode cX8_follow 0 = .ok (.aload_n 0, 1) := by decide +kernel
theorem dX8_follow_1 : decode cX8_follow 1 = .ok (.iconst 0, 1) := by decide +kernel
theorem dX8_follow_2 : decode cX8_follow 2 = .ok (.putfield 82, 3) := by decide +kernel
theorem dX8_follow_5 : decode cX8_follow 5 = .ok (.aload_n 0, 1) := by decide +kernel
theorem dX8_follow_6 : decode cX8_follow 6 = .ok (.getfield 21, 3) := by decide +kernel
theorem dX8_follow_9 : decode cX8_follow 9 = .ok (.iconst 0, 1) := by decide +kernel
theorem dX8_follow_10 : decode cX8_follow 10 = .ok (.putfield 85, 3) := by decide +kernel
theorem dX8_follow_13 : decode cX8_follow 13 = .ok (.return_, 1) := by decide +kernel
theorem dX8_learnTerm_0 : decode cX8_learnTerm 0 = .ok (.iload_n 1, 1) := by decide +kernel
theorem dX8_learnTerm_1 : decode cX8_learnTerm 1 = .ok (.aload_n 0, 1) := by decide +kernel
theorem dX8_learnTerm_2 : decode cX8_learnTerm 2 = .ok (.getfield 47, 3) := by decide +kernel
theorem dX8_learnTerm_5 : decode cX8_learnTerm 5 = .ok (.if_icmp .le 17, 3) := by decide +kernel
theorem dX8_learnTerm_8 : decode cX8_learnTerm 8 = .ok (.aload_n 0, 1) := by decide +kernel
theorem dX8_learnTerm_9 : decode cX8_learnTerm 9 = .ok (.iload_n 1, 1) := by decide +kernel
theorem dX8_learnTerm_10 : decode cX8_learnTerm 10 = .ok (.putfield 47, 3) := by decide +kernel
theorem dX8_learnTerm_13 : decode cX8_learnTerm 13 = .ok (.aload_n 0, 1) := by decide +kernel
theorem dX8_learnTerm_14 : decode cX8_learnTerm 14 = .ok (.iconst (-1), 1) := by decide +kernel
theorem dX8_learnTerm_15 : decode cX8_learnTerm 15 = .ok (.putfield 50, 3) := by decide +kernel
theorem dX8_learnTerm_18 : decode cX8_learnTerm 18 = .ok (.aload_n 0, 1) := by decide +kernel
theorem dX8_learnTerm_19 : decode cX8_learnTerm 19 = .ok (.invokevirtual 69, 3) := by decide +kernel
theorem dX8_learnTerm_22 : decode cX8_learnTerm 22 = .ok (.return_, 1) := by decide +kernel
theorem dX8_promise_0 : decode cX8_promise 0 = .ok (.aload_n 0, 1) := by decide +kernel
theorem dX8_promise_1 : decode cX8_promise 1 = .ok (.iload_n 1, 1) := by decide +kernel
theorem dX8_promise_2 : decode cX8_promise 2 = .ok (.putfield 59, 3) := by decide +kernel
theorem dX8_promise_5 : decode cX8_promise 5 = .ok (.aload_n 0, 1) := by decide +kernel
theorem dX8_promise_6 : decode cX8_promise 6 = .ok (.aload_n 0, 1) := by decide +kernel
theorem dX8_promise_7 : decode cX8_promise 7 = .ok (.getfield 40, 3) := by decide +kernel
theorem dX8_promise_10 : decode cX8_promise 10 = .ok (.fload_n 2, 1) := by decide +kernel
theorem dX8_promise_11 : decode cX8_promise 11 = .ok (.fadd, 1) := by decide +kernel
theorem dX8_promise_12 : decode cX8_promise 12 = .ok (.putfield 62, 3) := by decide +kernel
theorem dX8_promise_15 : decode cX8_promise 15 = .ok (.return_, 1) := by decide +kernel
theorem dX8_hasPromised_0 : decode cX8_hasPromised 0 = .ok (.aload_n 0, 1) := by decide +kernel
theorem dX8_hasPromised_1 : decode cX8_hasPromised 1 = .ok (.getfield 59, 3) := by decide +kernel
theorem dX8_hasPromised_4 : decode cX8_hasPromised 4 = .ok (.iconst (-1), 1) := by decide +kernel
theorem dX8_hasPromised_5 : decode cX8_hasPromised 5 = .ok (.if_icmp .eq 19, 3) := by decide +kernel
theorem dX8_hasPromised_8 : decode cX8_hasPromised 8 = .ok (.aload_n 0, 1) := by decide +kernel
theorem dX8_hasPromised_9 : decode cX8_hasPromised 9 = .ok (.getfield 40, 3) := by decide +kernel
theorem dX8_hasPromised_12 : decode cX8_hasPromised 12 = .ok (.aload_n 0, 1) := by decide +kernel
theorem dX8_hasPromised_13 : decode cX8_hasPromised 13 = .ok (.getfield 62, 3) := by decide +kernel
theorem dX8_hasPromised_16 : decode cX8_hasPromised 16 = .ok (.fcmp .g, 1) := by decide +kernel
theorem dX8_hasPromised_17 : decode cX8_hasPromised 17 = .ok (.ifCond .ge 7, 3) := by decide +kernel
theorem dX8_hasPromised_20 : decode cX8_hasPromised 20 = .ok (.iconst 1, 1) := by decide +kernel
theorem dX8_hasPromised_21 : decode cX8_hasPromised 21 = .ok (.goto 4, 3) := by decide +kernel
theorem dX8_hasPromised_24 : decode cX8_hasPromised 24 = .ok (.iconst 0, 1) := by decide +kernel
theorem dX8_hasPromised_25 : decode cX8_hasPromised 25 = .ok (.ireturn, 1) := by decide +kernel
theorem dX8_holdsLease_0 : decode cX8_holdsLease 0 = .ok (.aload_n 0, 1) := by decide +kernel
theorem dX8_holdsLease_1 : decode cX8_holdsLease 1 = .ok (.getfield 21, 3) := by decide +kernel
theorem dX8_holdsLease_4 : decode cX8_holdsLease 4 = .ok (.getfield 85, 3) := by decide +kernel
theorem dX8_holdsLease_7 : decode cX8_holdsLease 7 = .ok (.ifCond .eq 22, 3) := by decide +kernel
theorem dX8_holdsLease_10 : decode cX8_holdsLease 10 = .ok (.aload_n 0, 1) := by decide +kernel
theorem dX8_holdsLease_11 : decode cX8_holdsLease 11 = .ok (.getfield 40, 3) := by decide +kernel
theorem dX8_holdsLease_14 : decode cX8_holdsLease 14 = .ok (.aload_n 0, 1) := by decide +kernel
theorem dX8_holdsLease_15 : decode cX8_holdsLease 15 = .ok (.getfield 21, 3) := by decide +kernel
theorem dX8_holdsLease_18 : decode cX8_holdsLease 18 = .ok (.getfield 88, 3) := by decide +kernel
theorem dX8_holdsLease_21 : decode cX8_holdsLease 21 = .ok (.fcmp .g, 1) := by decide +kernel
theorem dX8_holdsLease_22 : decode cX8_holdsLease 22 = .ok (.ifCond .ge 7, 3) := by decide +kernel
theorem dX8_holdsLease_25 : decode cX8_holdsLease 25 = .ok (.iconst 1, 1) := by decide +kernel
theorem dX8_holdsLease_26 : decode cX8_holdsLease 26 = .ok (.goto 4, 3) := by decide +kernel
theorem dX8_holdsLease_29 : decode cX8_holdsLease 29 = .ok (.iconst 0, 1) := by decide +kernel
theorem dX8_holdsLease_30 : decode cX8_holdsLease 30 = .ok (.ireturn, 1) := by decide +kernel
theorem dX8_agreedInItsTerm_0 : decode cX8_agreedInItsTerm 0 = .ok (.aload_n 0, 1) := by decide +kernel
theorem dX8_agreedInItsTerm_1 : decode cX8_agreedInItsTerm 1 = .ok (.getfield 53, 3) := by decide +kernel
theorem dX8_agreedInItsTerm_4 : decode cX8_agreedInItsTerm 4 = .ok (.ifCond .le 25, 3) := by decide +kernel
theorem dX8_agreedInItsTerm_7 : decode cX8_agreedInItsTerm 7 = .ok (.aload_n 0, 1) := by decide +kernel
theorem dX8_agreedInItsTerm_8 : decode cX8_agreedInItsTerm 8 = .ok (.getfield 12, 3) := by decide +kernel
theorem dX8_agreedInItsTerm_11 : decode cX8_agreedInItsTerm 11 = .ok (.aload_n 0, 1) := by decide +kernel
theorem dX8_agreedInItsTerm_12 : decode cX8_agreedInItsTerm 12 = .ok (.getfield 53, 3) := by decide +kernel
theorem dX8_agreedInItsTerm_15 : decode cX8_agreedInItsTerm 15 = .ok (.invokevirtual 91, 3) := by decide +kernel
theorem dX8_agreedInItsTerm_18 : decode cX8_agreedInItsTerm 18 = .ok (.aload_n 0, 1) := by decide +kernel
theorem dX8_agreedInItsTerm_19 : decode cX8_agreedInItsTerm 19 = .ok (.getfield 47, 3) := by decide +kernel
theorem dX8_agreedInItsTerm_22 : decode cX8_agreedInItsTerm 22 = .ok (.if_icmp .ne 7, 3) := by decide +kernel
theorem dX8_agreedInItsTerm_25 : decode cX8_agreedInItsTerm 25 = .ok (.iconst 1, 1) := by decide +kernel
theorem dX8_agreedInItsTerm_26 : decode cX8_agreedInItsTerm 26 = .ok (.goto 4, 3) := by decide +kernel
theorem dX8_agreedInItsTerm_29 : decode cX8_agreedInItsTerm 29 = .ok (.iconst 0, 1) := by decide +kernel
theorem dX8_agreedInItsTerm_30 : decode cX8_agreedInItsTerm 30 = .ok (.ireturn, 1) := by decide +kernel
theorem dX8_canVoteFor_0 : decode cX8_canVoteFor 0 = .ok (.aload_n 0, 1) := by decide +kernel
theorem dX8_canVoteFor_1 : decode cX8_canVoteFor 1 = .ok (.getfield 50, 3) := by decide +kernel
theorem dX8_canVoteFor_4 : decode cX8_canVoteFor 4 = .ok (.iconst (-1), 1) := by decide +kernel
theorem dX8_canVoteFor_5 : decode cX8_canVoteFor 5 = .ok (.if_icmp .eq 16, 3) := by decide +kernel
theorem dX8_canVoteFor_8 : decode cX8_canVoteFor 8 = .ok (.aload_n 0, 1) := by decide +kernel
theorem dX8_canVoteFor_9 : decode cX8_canVoteFor 9 = .ok (.getfield 50, 3) := by decide +kernel
theorem dX8_canVoteFor_12 : decode cX8_canVoteFor 12 = .ok (.aload_n 1, 1) := by decide +kernel
theorem dX8_canVoteFor_13 : decode cX8_canVoteFor 13 = .ok (.getfield 95, 3) := by decide +kernel
theorem dX8_canVoteFor_16 : decode cX8_canVoteFor 16 = .ok (.if_icmp .eq 5, 3) := by decide +kernel
theorem dX8_canVoteFor_19 : decode cX8_canVoteFor 19 = .ok (.iconst 0, 1) := by decide +kernel
theorem dX8_canVoteFor_20 : decode cX8_canVoteFor 20 = .ok (.ireturn, 1) := by decide +kernel
theorem dX8_canVoteFor_21 : decode cX8_canVoteFor 21 = .ok (.aload_n 0, 1) := by decide +kernel
theorem dX8_canVoteFor_22 : decode cX8_canVoteFor 22 = .ok (.invokevirtual 100, 3) := by decide +kernel
theorem dX8_canVoteFor_25 : decode cX8_canVoteFor 25 = .ok (.ifCond .eq 16, 3) := by decide +kernel
theorem dX8_canVoteFor_28 : decode cX8_canVoteFor 28 = .ok (.aload_n 0, 1) := by decide +kernel
theorem dX8_canVoteFor_29 : decode cX8_canVoteFor 29 = .ok (.getfield 59, 3) := by decide +kernel
theorem dX8_canVoteFor_32 : decode cX8_canVoteFor 32 = .ok (.aload_n 1, 1) := by decide +kernel
theorem dX8_canVoteFor_33 : decode cX8_canVoteFor 33 = .ok (.getfield 95, 3) := by decide +kernel
theorem dX8_canVoteFor_36 : decode cX8_canVoteFor 36 = .ok (.if_icmp .eq 5, 3) := by decide +kernel
theorem dX8_canVoteFor_39 : decode cX8_canVoteFor 39 = .ok (.iconst 0, 1) := by decide +kernel
theorem dX8_canVoteFor_40 : decode cX8_canVoteFor 40 = .ok (.ireturn, 1) := by decide +kernel
theorem dX8_canVoteFor_41 : decode cX8_canVoteFor 41 = .ok (.aload_n 0, 1) := by decide +kernel
theorem dX8_canVoteFor_42 : decode cX8_canVoteFor 42 = .ok (.getfield 12, 3) := by decide +kernel
theorem dX8_canVoteFor_45 : decode cX8_canVoteFor 45 = .ok (.aload_n 0, 1) := by decide +kernel
theorem dX8_canVoteFor_46 : decode cX8_canVoteFor 46 = .ok (.getfield 12, 3) := by decide +kernel
theorem dX8_canVoteFor_49 : decode cX8_canVoteFor 49 = .ok (.getfield 104, 3) := by decide +kernel
theorem dX8_canVoteFor_52 : decode cX8_canVoteFor 52 = .ok (.invokevirtual 91, 3) := by decide +kernel
theorem dX8_canVoteFor_55 : decode cX8_canVoteFor 55 = .ok (.istore_n 2, 1) := by decide +kernel
theorem dX8_canVoteFor_56 : decode cX8_canVoteFor 56 = .ok (.aload_n 1, 1) := by decide +kernel
theorem dX8_canVoteFor_57 : decode cX8_canVoteFor 57 = .ok (.getfield 107, 3) := by decide +kernel
theorem dX8_canVoteFor_60 : decode cX8_canVoteFor 60 = .ok (.iload_n 2, 1) := by decide +kernel
theorem dX8_canVoteFor_61 : decode cX8_canVoteFor 61 = .ok (.if_icmp .gt 25, 3) := by decide +kernel
theorem dX8_canVoteFor_64 : decode cX8_canVoteFor 64 = .ok (.aload_n 1, 1) := by decide +kernel
theorem dX8_canVoteFor_65 : decode cX8_canVoteFor 65 = .ok (.getfield 107, 3) := by decide +kernel
theorem dX8_canVoteFor_68 : decode cX8_canVoteFor 68 = .ok (.iload_n 2, 1) := by decide +kernel
theorem dX8_canVoteFor_69 : decode cX8_canVoteFor 69 = .ok (.if_icmp .ne 21, 3) := by decide +kernel
theorem dX8_canVoteFor_72 : decode cX8_canVoteFor 72 = .ok (.aload_n 1, 1) := by decide +kernel
theorem dX8_canVoteFor_73 : decode cX8_canVoteFor 73 = .ok (.getfield 110, 3) := by decide +kernel
theorem dX8_canVoteFor_76 : decode cX8_canVoteFor 76 = .ok (.aload_n 0, 1) := by decide +kernel
theorem dX8_canVoteFor_77 : decode cX8_canVoteFor 77 = .ok (.getfield 12, 3) := by decide +kernel
theorem dX8_canVoteFor_80 : decode cX8_canVoteFor 80 = .ok (.getfield 104, 3) := by decide +kernel
theorem dX8_canVoteFor_83 : decode cX8_canVoteFor 83 = .ok (.if_icmp .lt 7, 3) := by decide +kernel
theorem dX8_canVoteFor_86 : decode cX8_canVoteFor 86 = .ok (.iconst 1, 1) := by decide +kernel
theorem dX8_canVoteFor_87 : decode cX8_canVoteFor 87 = .ok (.goto 4, 3) := by decide +kernel
theorem dX8_canVoteFor_90 : decode cX8_canVoteFor 90 = .ok (.iconst 0, 1) := by decide +kernel
theorem dX8_canVoteFor_91 : decode cX8_canVoteFor 91 = .ok (.ireturn, 1) := by decide +kernel
theorem dX8_agreesWith_0 : decode cX8_agreesWith 0 = .ok (.iconst 0, 1) := by decide +kernel
theorem dX8_agreesWith_1 : decode cX8_agreesWith 1 = .ok (.istore_n 2, 1) := by decide +kernel
theorem dX8_agreesWith_2 : decode cX8_agreesWith 2 = .ok (.iload_n 2, 1) := by decide +kernel
theorem dX8_agreesWith_3 : decode cX8_agreesWith 3 = .ok (.iconst 4, 1) := by decide +kernel
theorem dX8_agreesWith_4 : decode cX8_agreesWith 4 = .ok (.if_icmp .ge 49, 3) := by decide +kernel
theorem dX8_agreesWith_7 : decode cX8_agreesWith 7 = .ok (.aload_n 0, 1) := by decide +kernel
theorem dX8_agreesWith_8 : decode cX8_agreesWith 8 = .ok (.getfield 27, 3) := by decide +kernel
theorem dX8_agreesWith_11 : decode cX8_agreesWith 11 = .ok (.iload_n 2, 1) := by decide +kernel
theorem dX8_agreesWith_12 : decode cX8_agreesWith 12 = .ok (.aaload, 1) := by decide +kernel
theorem dX8_agreesWith_13 : decode cX8_agreesWith 13 = .ok (.getfield 111, 3) := by decide +kernel
theorem dX8_agreesWith_16 : decode cX8_agreesWith 16 = .ok (.istore_n 3, 1) := by decide +kernel
theorem dX8_agreesWith_17 : decode cX8_agreesWith 17 = .ok (.aload_n 1, 1) := by decide +kernel
theorem dX8_agreesWith_18 : decode cX8_agreesWith 18 = .ok (.getfield 27, 3) := by decide +kernel
theorem dX8_agreesWith_21 : decode cX8_agreesWith 21 = .ok (.iload_n 2, 1) := by decide +kernel
theorem dX8_agreesWith_22 : decode cX8_agreesWith 22 = .ok (.aaload, 1) := by decide +kernel
theorem dX8_agreesWith_23 : decode cX8_agreesWith 23 = .ok (.getfield 111, 3) := by decide +kernel
theorem dX8_agreesWith_26 : decode cX8_agreesWith 26 = .ok (.istore 4, 2) := by decide +kernel
theorem dX8_agreesWith_28 : decode cX8_agreesWith 28 = .ok (.iload_n 3, 1) := by decide +kernel
theorem dX8_agreesWith_29 : decode cX8_agreesWith 29 = .ok (.iconst (-1), 1) := by decide +kernel
theorem dX8_agreesWith_30 : decode cX8_agreesWith 30 = .ok (.if_icmp .eq 17, 3) := by decide +kernel
theorem dX8_agreesWith_33 : decode cX8_agreesWith 33 = .ok (.iload 4, 2) := by decide +kernel
theorem dX8_agreesWith_35 : decode cX8_agreesWith 35 = .ok (.iconst (-1), 1) := by decide +kernel
theorem dX8_agreesWith_36 : decode cX8_agreesWith 36 = .ok (.if_icmp .eq 11, 3) := by decide +kernel
theorem dX8_agreesWith_39 : decode cX8_agreesWith 39 = .ok (.iload_n 3, 1) := by decide +kernel
theorem dX8_agreesWith_40 : decode cX8_agreesWith 40 = .ok (.iload 4, 2) := by decide +kernel
theorem dX8_agreesWith_42 : decode cX8_agreesWith 42 = .ok (.if_icmp .eq 5, 3) := by decide +kernel
theorem dX8_agreesWith_45 : decode cX8_agreesWith 45 = .ok (.iconst 0, 1) := by decide +kernel
theorem dX8_agreesWith_46 : decode cX8_agreesWith 46 = .ok (.ireturn, 1) := by decide +kernel
theorem dX8_agreesWith_47 : decode cX8_agreesWith 47 = .ok (.iinc 2 1, 3) := by decide +kernel
theorem dX8_agreesWith_50 : decode cX8_agreesWith 50 = .ok (.goto (-48), 3) := by decide +kernel
theorem dX8_agreesWith_53 : decode cX8_agreesWith 53 = .ok (.aload_n 0, 1) := by decide +kernel
theorem dX8_agreesWith_54 : decode cX8_agreesWith 54 = .ok (.getfield 12, 3) := by decide +kernel
theorem dX8_agreesWith_57 : decode cX8_agreesWith 57 = .ok (.aload_n 1, 1) := by decide +kernel
theorem dX8_agreesWith_58 : decode cX8_agreesWith 58 = .ok (.getfield 12, 3) := by decide +kernel
theorem dX8_agreesWith_61 : decode cX8_agreesWith 61 = .ok (.aload_n 0, 1) := by decide +kernel
theorem dX8_agreesWith_62 : decode cX8_agreesWith 62 = .ok (.getfield 53, 3) := by decide +kernel
theorem dX8_agreesWith_65 : decode cX8_agreesWith 65 = .ok (.aload_n 1, 1) := by decide +kernel
theorem dX8_agreesWith_66 : decode cX8_agreesWith 66 = .ok (.getfield 53, 3) := by decide +kernel
theorem dX8_agreesWith_69 : decode cX8_agreesWith 69 = .ok (.invokestatic 114, 3) := by decide +kernel
theorem dX8_agreesWith_72 : decode cX8_agreesWith 72 = .ok (.invokevirtual 120, 3) := by decide +kernel
theorem dX8_agreesWith_75 : decode cX8_agreesWith 75 = .ok (.ireturn, 1) := by decide +kernel
theorem dX9_init_0 : decode cX9_init 0 = .ok (.aload_n 0, 1) := by decide +kernel
theorem dX9_init_1 : decode cX9_init 1 = .ok (.invokespecial 3, 3) := by decide +kernel
theorem dX9_init_4 : decode cX9_init 4 = .ok (.aload_n 0, 1) := by decide +kernel
theorem dX9_init_5 : decode cX9_init 5 = .ok (.iconst 3, 1) := by decide +kernel
theorem dX9_init_6 : decode cX9_init 6 = .ok (.anewarray 9, 3) := by decide +kernel
theorem dX9_init_9 : decode cX9_init 9 = .ok (.putfield 11, 3) := by decide +kernel
theorem dX9_init_12 : decode cX9_init 12 = .ok (.return_, 1) := by decide +kernel
theorem dX9_start_0 : decode cX9_start 0 = .ok (.aload_n 0, 1) := by decide +kernel
theorem dX9_start_1 : decode cX9_start 1 = .ok (.iload_n 1, 1) := by decide +kernel
theorem dX9_start_2 : decode cX9_start 2 = .ok (.putfield 17, 3) := by decide +kernel
theorem dX9_start_5 : decode cX9_start 5 = .ok (.aload_n 0, 1) := by decide +kernel
theorem dX9_start_6 : decode cX9_start 6 = .ok (.iload_n 2, 1) := by decide +kernel
theorem dX9_start_7 : decode cX9_start 7 = .ok (.putfield 21, 3) := by decide +kernel
theorem dX9_start_10 : decode cX9_start 10 = .ok (.aload_n 0, 1) := by decide +kernel
theorem dX9_start_11 : decode cX9_start 11 = .ok (.iload_n 3, 1) := by decide +kernel
theorem dX9_start_12 : decode cX9_start 12 = .ok (.putfield 24, 3) := by decide +kernel
theorem dX9_start_15 : decode cX9_start 15 = .ok (.aload_n 0, 1) := by decide +kernel
theorem dX9_start_16 : decode cX9_start 16 = .ok (.iload 4, 2) := by decide +kernel
theorem dX9_start_18 : decode cX9_start 18 = .ok (.putfield 27, 3) := by decide +kernel
theorem dX9_start_21 : decode cX9_start 21 = .ok (.aload_n 0, 1) := by decide +kernel
theorem dX9_start_22 : decode cX9_start 22 = .ok (.iconst 0, 1) := by decide +kernel
theorem dX9_start_23 : decode cX9_start 23 = .ok (.putfield 30, 3) := by decide +kernel
theorem dX9_start_26 : decode cX9_start 26 = .ok (.aload_n 0, 1) := by decide +kernel
theorem dX9_start_27 : decode cX9_start 27 = .ok (.iconst 0, 1) := by decide +kernel
theorem dX9_start_28 : decode cX9_start 28 = .ok (.putfield 33, 3) := by decide +kernel
theorem dX9_start_31 : decode cX9_start 31 = .ok (.aload_n 0, 1) := by decide +kernel
theorem dX9_start_32 : decode cX9_start 32 = .ok (.iconst 0, 1) := by decide +kernel
theorem dX9_start_33 : decode cX9_start 33 = .ok (.putfield 36, 3) := by decide +kernel
theorem dX9_start_36 : decode cX9_start 36 = .ok (.aload_n 0, 1) := by decide +kernel
theorem dX9_start_37 : decode cX9_start 37 = .ok (.fconst 0, 1) := by decide +kernel
theorem dX9_start_38 : decode cX9_start 38 = .ok (.putfield 39, 3) := by decide +kernel
theorem dX9_start_41 : decode cX9_start 41 = .ok (.aload_n 0, 1) := by decide +kernel
theorem dX9_start_42 : decode cX9_start 42 = .ok (.iconst 0, 1) := by decide +kernel
theorem dX9_start_43 : decode cX9_start 43 = .ok (.putfield 43, 3) := by decide +kernel
theorem dX9_start_46 : decode cX9_start 46 = .ok (.aload_n 0, 1) := by decide +kernel
theorem dX9_start_47 : decode cX9_start 47 = .ok (.iconst 0, 1) := by decide +kernel
theorem dX9_start_48 : decode cX9_start 48 = .ok (.putfield 47, 3) := by decide +kernel
theorem dX9_start_51 : decode cX9_start 51 = .ok (.aload_n 0, 1) := by decide +kernel
theorem dX9_start_52 : decode cX9_start 52 = .ok (.iconst 0, 1) := by decide +kernel
theorem dX9_start_53 : decode cX9_start 53 = .ok (.putfield 50, 3) := by decide +kernel
theorem dX9_start_56 : decode cX9_start 56 = .ok (.aload_n 0, 1) := by decide +kernel
theorem dX9_start_57 : decode cX9_start 57 = .ok (.iconst (-1), 1) := by decide +kernel
theorem dX9_start_58 : decode cX9_start 58 = .ok (.putfield 53, 3) := by decide +kernel
theorem dX9_start_61 : decode cX9_start 61 = .ok (.aload_n 0, 1) := by decide +kernel
theorem dX9_start_62 : decode cX9_start 62 = .ok (.iconst (-1), 1) := by decide +kernel
theorem dX9_start_63 : decode cX9_start 63 = .ok (.putfield 56, 3) := by decide +kernel
theorem dX9_start_66 : decode cX9_start 66 = .ok (.return_, 1) := by decide +kernel
theorem dX9_copyRest_0 : decode cX9_copyRest 0 = .ok (.aload_n 0, 1) := by decide +kernel
theorem dX9_copyRest_1 : decode cX9_copyRest 1 = .ok (.aload_n 1, 1) := by decide +kernel
theorem dX9_copyRest_2 : decode cX9_copyRest 2 = .ok (.getfield 30, 3) := by decide +kernel
theorem dX9_copyRest_5 : decode cX9_copyRest 5 = .ok (.putfield 30, 3) := by decide +kernel
theorem dX9_copyRest_8 : decode cX9_copyRest 8 = .ok (.aload_n 0, 1) := by decide +kernel
theorem dX9_copyRest_9 : decode cX9_copyRest 9 = .ok (.aload_n 1, 1) := by decide +kernel
theorem dX9_copyRest_10 : decode cX9_copyRest 10 = .ok (.getfield 33, 3) := by decide +kernel
theorem dX9_copyRest_13 : decode cX9_copyRest 13 = .ok (.putfield 33, 3) := by decide +kernel
theorem dX9_copyRest_16 : decode cX9_copyRest 16 = .ok (.aload_n 0, 1) := by decide +kernel
theorem dX9_copyRest_17 : decode cX9_copyRest 17 = .ok (.aload_n 1, 1) := by decide +kernel
theorem dX9_copyRest_18 : decode cX9_copyRest 18 = .ok (.getfield 36, 3) := by decide +kernel
theorem dX9_copyRest_21 : decode cX9_copyRest 21 = .ok (.putfield 36, 3) := by decide +kernel
theorem dX9_copyRest_24 : decode cX9_copyRest 24 = .ok (.aload_n 0, 1) := by decide +kernel
theorem dX9_copyRest_25 : decode cX9_copyRest 25 = .ok (.aload_n 1, 1) := by decide +kernel
theorem dX9_copyRest_26 : decode cX9_copyRest 26 = .ok (.getfield 39, 3) := by decide +kernel
theorem dX9_copyRest_29 : decode cX9_copyRest 29 = .ok (.putfield 39, 3) := by decide +kernel
theorem dX9_copyRest_32 : decode cX9_copyRest 32 = .ok (.aload_n 0, 1) := by decide +kernel
theorem dX9_copyRest_33 : decode cX9_copyRest 33 = .ok (.aload_n 1, 1) := by decide +kernel
theorem dX9_copyRest_34 : decode cX9_copyRest 34 = .ok (.getfield 43, 3) := by decide +kernel
theorem dX9_copyRest_37 : decode cX9_copyRest 37 = .ok (.putfield 43, 3) := by decide +kernel
theorem dX9_copyRest_40 : decode cX9_copyRest 40 = .ok (.aload_n 0, 1) := by decide +kernel
theorem dX9_copyRest_41 : decode cX9_copyRest 41 = .ok (.aload_n 1, 1) := by decide +kernel
theorem dX9_copyRest_42 : decode cX9_copyRest 42 = .ok (.getfield 47, 3) := by decide +kernel
theorem dX9_copyRest_45 : decode cX9_copyRest 45 = .ok (.putfield 47, 3) := by decide +kernel
theorem dX9_copyRest_48 : decode cX9_copyRest 48 = .ok (.iconst 0, 1) := by decide +kernel
theorem dX9_copyRest_49 : decode cX9_copyRest 49 = .ok (.istore_n 2, 1) := by decide +kernel
theorem dX9_copyRest_50 : decode cX9_copyRest 50 = .ok (.iload_n 2, 1) := by decide +kernel
theorem dX9_copyRest_51 : decode cX9_copyRest 51 = .ok (.iconst 3, 1) := by decide +kernel
theorem dX9_copyRest_52 : decode cX9_copyRest 52 = .ok (.if_icmp .ge 21, 3) := by decide +kernel
theorem dX9_copyRest_55 : decode cX9_copyRest 55 = .ok (.aload_n 0, 1) := by decide +kernel
theorem dX9_copyRest_56 : decode cX9_copyRest 56 = .ok (.getfield 11, 3) := by decide +kernel
theorem dX9_copyRest_59 : decode cX9_copyRest 59 = .ok (.iload_n 2, 1) := by decide +kernel
theorem dX9_copyRest_60 : decode cX9_copyRest 60 = .ok (.aload_n 1, 1) := by decide +kernel
theorem dX9_copyRest_61 : decode cX9_copyRest 61 = .ok (.getfield 11, 3) := by decide +kernel
theorem dX9_copyRest_64 : decode cX9_copyRest 64 = .ok (.iload_n 2, 1) := by decide +kernel
theorem dX9_copyRest_65 : decode cX9_copyRest 65 = .ok (.aaload, 1) := by decide +kernel
theorem dX9_copyRest_66 : decode cX9_copyRest 66 = .ok (.aastore, 1) := by decide +kernel
theorem dX9_copyRest_67 : decode cX9_copyRest 67 = .ok (.iinc 2 1, 3) := by decide +kernel
theorem dX9_copyRest_70 : decode cX9_copyRest 70 = .ok (.goto (-20), 3) := by decide +kernel
theorem dX9_copyRest_73 : decode cX9_copyRest 73 = .ok (.aload_n 0, 1) := by decide +kernel
theorem dX9_copyRest_74 : decode cX9_copyRest 74 = .ok (.aload_n 1, 1) := by decide +kernel
theorem dX9_copyRest_75 : decode cX9_copyRest 75 = .ok (.getfield 50, 3) := by decide +kernel
theorem dX9_copyRest_78 : decode cX9_copyRest 78 = .ok (.putfield 50, 3) := by decide +kernel
theorem dX9_copyRest_81 : decode cX9_copyRest 81 = .ok (.aload_n 0, 1) := by decide +kernel
theorem dX9_copyRest_82 : decode cX9_copyRest 82 = .ok (.aload_n 1, 1) := by decide +kernel
theorem dX9_copyRest_83 : decode cX9_copyRest 83 = .ok (.getfield 53, 3) := by decide +kernel
theorem dX9_copyRest_86 : decode cX9_copyRest 86 = .ok (.putfield 53, 3) := by decide +kernel
theorem dX9_copyRest_89 : decode cX9_copyRest 89 = .ok (.aload_n 0, 1) := by decide +kernel
theorem dX9_copyRest_90 : decode cX9_copyRest 90 = .ok (.aload_n 1, 1) := by decide +kernel
theorem dX9_copyRest_91 : decode cX9_copyRest 91 = .ok (.getfield 56, 3) := by decide +kernel
theorem dX9_copyRest_94 : decode cX9_copyRest 94 = .ok (.putfield 56, 3) := by decide +kernel
theorem dX9_copyRest_97 : decode cX9_copyRest 97 = .ok (.return_, 1) := by decide +kernel
theorem dX9_addEntriesBehind_0 : decode cX9_addEntriesBehind 0 = .ok (.iconst 0, 1) := by decide +kernel
theorem dX9_addEntriesBehind_1 : decode cX9_addEntriesBehind 1 = .ok (.istore_n 3, 1) := by decide +kernel
theorem dX9_addEntriesBehind_2 : decode cX9_addEntriesBehind 2 = .ok (.iload_n 3, 1) := by decide +kernel
theorem dX9_addEntriesBehind_3 : decode cX9_addEntriesBehind 3 = .ok (.iconst 3, 1) := by decide +kernel
theorem dX9_addEntriesBehind_4 : decode cX9_addEntriesBehind 4 = .ok (.if_icmp .ge 46, 3) := by decide +kernel
theorem dX9_addEntriesBehind_7 : decode cX9_addEntriesBehind 7 = .ok (.aload_n 1, 1) := by decide +kernel
theorem dX9_addEntriesBehind_8 : decode cX9_addEntriesBehind 8 = .ok (.iload_n 2, 1) := by decide +kernel
theorem dX9_addEntriesBehind_9 : decode cX9_addEntriesBehind 9 = .ok (.iconst 1, 1) := by decide +kernel
theorem dX9_addEntriesBehind_10 : decode cX9_addEntriesBehind 10 = .ok (.iadd, 1) := by decide +kernel
theorem dX9_addEntriesBehind_11 : decode cX9_addEntriesBehind 11 = .ok (.iload_n 3, 1) := by decide +kernel
theorem dX9_addEntriesBehind_12 : decode cX9_addEntriesBehind 12 = .ok (.iadd, 1) := by decide +kernel
theorem dX9_addEntriesBehind_13 : decode cX9_addEntriesBehind 13 = .ok (.invokevirtual 59, 3) := by decide +kernel
theorem dX9_addEntriesBehind_16 : decode cX9_addEntriesBehind 16 = .ok (.astore 4, 2) := by decide +kernel
theorem dX9_addEntriesBehind_18 : decode cX9_addEntriesBehind 18 = .ok (.aload 4, 2) := by decide +kernel
theorem dX9_addEntriesBehind_20 : decode cX9_addEntriesBehind 20 = .ok (.ifnull 24, 3) := by decide +kernel
theorem dX9_addEntriesBehind_23 : decode cX9_addEntriesBehind 23 = .ok (.aload_n 0, 1) := by decide +kernel
theorem dX9_addEntriesBehind_24 : decode cX9_addEntriesBehind 24 = .ok (.getfield 11, 3) := by decide +kernel
theorem dX9_addEntriesBehind_27 : decode cX9_addEntriesBehind 27 = .ok (.aload_n 0, 1) := by decide +kernel
theorem dX9_addEntriesBehind_28 : decode cX9_addEntriesBehind 28 = .ok (.getfield 47, 3) := by decide +kernel
theorem dX9_addEntriesBehind_31 : decode cX9_addEntriesBehind 31 = .ok (.aload 4, 2) := by decide +kernel
theorem dX9_addEntriesBehind_33 : decode cX9_addEntriesBehind 33 = .ok (.aastore, 1) := by decide +kernel
theorem dX9_addEntriesBehind_34 : decode cX9_addEntriesBehind 34 = .ok (.aload_n 0, 1) := by decide +kernel
theorem dX9_addEntriesBehind_35 : decode cX9_addEntriesBehind 35 = .ok (.dup, 1) := by decide +kernel
theorem dX9_addEntriesBehind_36 : decode cX9_addEntriesBehind 36 = .ok (.getfield 47, 3) := by decide +kernel
theorem dX9_addEntriesBehind_39 : decode cX9_addEntriesBehind 39 = .ok (.iconst 1, 1) := by decide +kernel
theorem dX9_addEntriesBehind_40 : decode cX9_addEntriesBehind 40 = .ok (.iadd, 1) := by decide +kernel
theorem dX9_addEntriesBehind_41 : decode cX9_addEntriesBehind 41 = .ok (.putfield 47, 3) := by decide +kernel
theorem dX9_addEntriesBehind_44 : decode cX9_addEntriesBehind 44 = .ok (.iinc 3 1, 3) := by decide +kernel
theorem dX9_addEntriesBehind_47 : decode cX9_addEntriesBehind 47 = .ok (.goto (-45), 3) := by decide +kernel
theorem dX9_addEntriesBehind_50 : decode cX9_addEntriesBehind 50 = .ok (.return_, 1) := by decide +kernel
theorem dX10_init_0 : decode cX10_init 0 = .ok (.aload_n 0, 1) := by decide +kernel
theorem dX10_init_1 : decode cX10_init 1 = .ok (.invokespecial 3, 3) := by decide +kernel
theorem dX10_init_4 : decode cX10_init 4 = .ok (.aload_n 0, 1) := by decide +kernel
theorem dX10_init_5 : decode cX10_init 5 = .ok (.bipush 60, 2) := by decide +kernel
theorem dX10_init_7 : decode cX10_init 7 = .ok (.anewarray 9, 3) := by decide +kernel
theorem dX10_init_10 : decode cX10_init 10 = .ok (.putfield 11, 3) := by decide +kernel
theorem dX10_init_13 : decode cX10_init 13 = .ok (.aload_n 0, 1) := by decide +kernel
theorem dX10_init_14 : decode cX10_init 14 = .ok (.bipush 25, 2) := by decide +kernel
theorem dX10_init_16 : decode cX10_init 16 = .ok (.newarray .boolean, 2) := by decide +kernel
theorem dX10_init_18 : decode cX10_init 18 = .ok (.putfield 17, 3) := by decide +kernel
theorem dX10_init_21 : decode cX10_init 21 = .ok (.aload_n 0, 1) := by decide +kernel
theorem dX10_init_22 : decode cX10_init 22 = .ok (.new 9, 3) := by decide +kernel
theorem dX10_init_25 : decode cX10_init 25 = .ok (.dup, 1) := by decide +kernel
theorem dX10_init_26 : decode cX10_init 26 = .ok (.invokespecial 21, 3) := by decide +kernel
theorem dX10_init_29 : decode cX10_init 29 = .ok (.putfield 22, 3) := by decide +kernel
theorem dX10_init_32 : decode cX10_init 32 = .ok (.aload_n 0, 1) := by decide +kernel
theorem dX10_init_33 : decode cX10_init 33 = .ok (.new 9, 3) := by decide +kernel
theorem dX10_init_36 : decode cX10_init 36 = .ok (.dup, 1) := by decide +kernel
theorem dX10_init_37 : decode cX10_init 37 = .ok (.invokespecial 21, 3) := by decide +kernel
theorem dX10_init_40 : decode cX10_init 40 = .ok (.putfield 26, 3) := by decide +kernel
theorem dX10_init_43 : decode cX10_init 43 = .ok (.iconst 0, 1) := by decide +kernel
theorem dX10_init_44 : decode cX10_init 44 = .ok (.istore_n 1, 1) := by decide +kernel
theorem dX10_init_45 : decode cX10_init 45 = .ok (.iload_n 1, 1) := by decide +kernel
theorem dX10_init_46 : decode cX10_init 46 = .ok (.bipush 60, 2) := by decide +kernel
theorem dX10_init_48 : decode cX10_init 48 = .ok (.if_icmp .ge 22, 3) := by decide +kernel
theorem dX10_init_51 : decode cX10_init 51 = .ok (.aload_n 0, 1) := by decide +kernel
theorem dX10_init_52 : decode cX10_init 52 = .ok (.getfield 11, 3) := by decide +kernel
theorem dX10_init_55 : decode cX10_init 55 = .ok (.iload_n 1, 1) := by decide +kernel
theorem dX10_init_56 : decode cX10_init 56 = .ok (.new 9, 3) := by decide +kernel
theorem dX10_init_59 : decode cX10_init 59 = .ok (.dup, 1) := by decide +kernel
theorem dX10_init_60 : decode cX10_init 60 = .ok (.invokespecial 21, 3) := by decide +kernel
theorem dX10_init_63 : decode cX10_init 63 = .ok (.aastore, 1) := by decide +kernel
theorem dX10_init_64 : decode cX10_init 64 = .ok (.iinc 1 1, 3) := by decide +kernel
theorem dX10_init_67 : decode cX10_init 67 = .ok (.goto (-22), 3) := by decide +kernel
theorem dX10_init_70 : decode cX10_init 70 = .ok (.return_, 1) := by decide +kernel
theorem dX10_renew_0 : decode cX10_renew 0 = .ok (.aload_n 0, 1) := by decide +kernel
theorem dX10_renew_1 : decode cX10_renew 1 = .ok (.iload_n 1, 1) := by decide +kernel
theorem dX10_renew_2 : decode cX10_renew 2 = .ok (.putfield 29, 3) := by decide +kernel
theorem dX10_renew_5 : decode cX10_renew 5 = .ok (.aload_n 0, 1) := by decide +kernel
theorem dX10_renew_6 : decode cX10_renew 6 = .ok (.iconst 0, 1) := by decide +kernel
theorem dX10_renew_7 : decode cX10_renew 7 = .ok (.putfield 33, 3) := by decide +kernel
theorem dX10_renew_10 : decode cX10_renew 10 = .ok (.aload_n 0, 1) := by decide +kernel
theorem dX10_renew_11 : decode cX10_renew 11 = .ok (.iconst 0, 1) := by decide +kernel
theorem dX10_renew_12 : decode cX10_renew 12 = .ok (.putfield 36, 3) := by decide +kernel
theorem dX10_renew_15 : decode cX10_renew 15 = .ok (.iconst 0, 1) := by decide +kernel
theorem dX10_renew_16 : decode cX10_renew 16 = .ok (.istore_n 2, 1) := by decide +kernel
theorem dX10_renew_17 : decode cX10_renew 17 = .ok (.iload_n 2, 1) := by decide +kernel
theorem dX10_renew_18 : decode cX10_renew 18 = .ok (.aload_n 0, 1) := by decide +kernel
theorem dX10_renew_19 : decode cX10_renew 19 = .ok (.getfield 17, 3) := by decide +kernel
theorem dX10_renew_22 : decode cX10_renew 22 = .ok (.arraylength, 1) := by decide +kernel
theorem dX10_renew_23 : decode cX10_renew 23 = .ok (.if_icmp .ge 16, 3) := by decide +kernel
theorem dX10_renew_26 : decode cX10_renew 26 = .ok (.aload_n 0, 1) := by decide +kernel
theorem dX10_renew_27 : decode cX10_renew 27 = .ok (.getfield 17, 3) := by decide +kernel
theorem dX10_renew_30 : decode cX10_renew 30 = .ok (.iload_n 2, 1) := by decide +kernel
theorem dX10_renew_31 : decode cX10_renew 31 = .ok (.iconst 0, 1) := by decide +kernel
theorem dX10_renew_32 : decode cX10_renew 32 = .ok (.bastore, 1) := by decide +kernel
theorem dX10_renew_33 : decode cX10_renew 33 = .ok (.iinc 2 1, 3) := by decide +kernel
theorem dX10_renew_36 : decode cX10_renew 36 = .ok (.goto (-19), 3) := by decide +kernel
theorem dX10_renew_39 : decode cX10_renew 39 = .ok (.return_, 1) := by decide +kernel
theorem dX10_most_0 : decode cX10_most 0 = .ok (.aload_n 0, 1) := by decide +kernel
theorem dX10_most_1 : decode cX10_most 1 = .ok (.getfield 29, 3) := by decide +kernel
theorem dX10_most_4 : decode cX10_most 4 = .ok (.iconst 2, 1) := by decide +kernel
theorem dX10_most_5 : decode cX10_most 5 = .ok (.idiv, 1) := by decide +kernel
theorem dX10_most_6 : decode cX10_most 6 = .ok (.iconst 1, 1) := by decide +kernel
theorem dX10_most_7 : decode cX10_most 7 = .ok (.iadd, 1) := by decide +kernel
theorem dX10_most_8 : decode cX10_most 8 = .ok (.ireturn, 1) := by decide +kernel
theorem dX10_areMost_0 : decode cX10_areMost 0 = .ok (.iload_n 1, 1) := by decide +kernel
theorem dX10_areMost_1 : decode cX10_areMost 1 = .ok (.invokestatic 39, 3) := by decide +kernel
theorem dX10_areMost_4 : decode cX10_areMost 4 = .ok (.aload_n 0, 1) := by decide +kernel
theorem dX10_areMost_5 : decode cX10_areMost 5 = .ok (.invokevirtual 45, 3) := by decide +kernel
theorem dX10_areMost_8 : decode cX10_areMost 8 = .ok (.if_icmp .lt 7, 3) := by decide +kernel
theorem dX10_areMost_11 : decode cX10_areMost 11 = .ok (.iconst 1, 1) := by decide +kernel
theorem dX10_areMost_12 : decode cX10_areMost 12 = .ok (.goto 4, 3) := by decide +kernel
theorem dX10_areMost_15 : decode cX10_areMost 15 = .ok (.iconst 0, 1) := by decide +kernel
theorem dX10_areMost_16 : decode cX10_areMost 16 = .ok (.ireturn, 1) := by decide +kernel
theorem dX10_at_0 : decode cX10_at 0 = .ok (.iload_n 1, 1) := by decide +kernel
theorem dX10_at_1 : decode cX10_at 1 = .ok (.ifCond .lt 20, 3) := by decide +kernel
theorem dX10_at_4 : decode cX10_at 4 = .ok (.iload_n 1, 1) := by decide +kernel
