theorem dX12_entry_80 : decode cX12_entry 80 = .ok (.goto 40, 3) := by decide +kernel
theorem dX12_entry_83 : decode cX12_entry 83 = .ok (.iload_n 3, 1) := by decide +kernel
theorem dX12_entry_84 : decode cX12_entry 84 = .ok (.iconst 1, 1) := by decide +kernel
theorem dX12_entry_85 : decode cX12_entry 85 = .ok (.if_icmp .ne 13, 3) := by decide +kernel
theorem dX12_entry_88 : decode cX12_entry 88 = .ok (.aload_n 0, 1) := by decide +kernel
theorem dX12_entry_89 : decode cX12_entry 89 = .ok (.getfield 51, 3) := by decide +kernel
theorem dX12_entry_92 : decode cX12_entry 92 = .ok (.iload 5, 2) := by decide +kernel
theorem dX12_entry_94 : decode cX12_entry 94 = .ok (.iaload, 1) := by decide +kernel
theorem dX12_entry_95 : decode cX12_entry 95 = .ok (.goto 25, 3) := by decide +kernel
theorem dX12_entry_98 : decode cX12_entry 98 = .ok (.iload_n 3, 1) := by decide +kernel
theorem dX12_entry_99 : decode cX12_entry 99 = .ok (.iconst 2, 1) := by decide +kernel
theorem dX12_entry_100 : decode cX12_entry 100 = .ok (.if_icmp .ne 13, 3) := by decide +kernel
theorem dX12_entry_103 : decode cX12_entry 103 = .ok (.aload_n 0, 1) := by decide +kernel
theorem dX12_entry_104 : decode cX12_entry 104 = .ok (.getfield 54, 3) := by decide +kernel
theorem dX12_entry_107 : decode cX12_entry 107 = .ok (.iload 5, 2) := by decide +kernel
theorem dX12_entry_109 : decode cX12_entry 109 = .ok (.iaload, 1) := by decide +kernel
theorem dX12_entry_110 : decode cX12_entry 110 = .ok (.goto 10, 3) := by decide +kernel
theorem dX12_entry_113 : decode cX12_entry 113 = .ok (.aload_n 0, 1) := by decide +kernel
theorem dX12_entry_114 : decode cX12_entry 114 = .ok (.getfield 57, 3) := by decide +kernel
theorem dX12_entry_117 : decode cX12_entry 117 = .ok (.iload 5, 2) := by decide +kernel
theorem dX12_entry_119 : decode cX12_entry 119 = .ok (.iaload, 1) := by decide +kernel
theorem dX12_entry_120 : decode cX12_entry 120 = .ok (.ireturn, 1) := by decide +kernel
theorem dX12_clock_0 : decode cX12_clock 0 = .ok (.aload_n 0, 1) := by decide +kernel
theorem dX12_clock_1 : decode cX12_clock 1 = .ok (.aload_n 0, 1) := by decide +kernel
theorem dX12_clock_2 : decode cX12_clock 2 = .ok (.iload_n 1, 1) := by decide +kernel
theorem dX12_clock_3 : decode cX12_clock 3 = .ok (.invokevirtual 181, 3) := by decide +kernel
theorem dX12_clock_6 : decode cX12_clock 6 = .ok (.iconst 1, 1) := by decide +kernel
theorem dX12_clock_7 : decode cX12_clock 7 = .ok (.iconst 1, 1) := by decide +kernel
theorem dX12_clock_8 : decode cX12_clock 8 = .ok (.invokevirtual 173, 3) := by decide +kernel
theorem dX12_clock_11 : decode cX12_clock 11 = .ok (.ifCond .eq 12, 3) := by decide +kernel
theorem dX12_clock_14 : decode cX12_clock 14 = .ok (.aload_n 0, 1) := by decide +kernel
theorem dX12_clock_15 : decode cX12_clock 15 = .ok (.getfield 25, 3) := by decide +kernel
theorem dX12_clock_18 : decode cX12_clock 18 = .ok (.iload_n 1, 1) := by decide +kernel
theorem dX12_clock_19 : decode cX12_clock 19 = .ok (.faload, 1) := by decide +kernel
theorem dX12_clock_20 : decode cX12_clock 20 = .ok (.goto 4, 3) := by decide +kernel
theorem dX12_clock_23 : decode cX12_clock 23 = .ok (.fconst 0, 1) := by decide +kernel
theorem dX12_clock_24 : decode cX12_clock 24 = .ok (.freturn, 1) := by decide +kernel
theorem dX12_lease_0 : decode cX12_lease 0 = .ok (.aload_n 0, 1) := by decide +kernel
theorem dX12_lease_1 : decode cX12_lease 1 = .ok (.aload_n 0, 1) := by decide +kernel
theorem dX12_lease_2 : decode cX12_lease 2 = .ok (.iload_n 1, 1) := by decide +kernel
theorem dX12_lease_3 : decode cX12_lease 3 = .ok (.invokevirtual 181, 3) := by decide +kernel
theorem dX12_lease_6 : decode cX12_lease 6 = .ok (.iconst 1, 1) := by decide +kernel
theorem dX12_lease_7 : decode cX12_lease 7 = .ok (.iconst 1, 1) := by decide +kernel
theorem dX12_lease_8 : decode cX12_lease 8 = .ok (.invokevirtual 173, 3) := by decide +kernel
theorem dX12_lease_11 : decode cX12_lease 11 = .ok (.ifCond .ne 5, 3) := by decide +kernel
theorem dX12_lease_14 : decode cX12_lease 14 = .ok (.fconst 0, 1) := by decide +kernel
theorem dX12_lease_15 : decode cX12_lease 15 = .ok (.freturn, 1) := by decide +kernel
theorem dX12_lease_16 : decode cX12_lease 16 = .ok (.aload_n 0, 1) := by decide +kernel
theorem dX12_lease_17 : decode cX12_lease 17 = .ok (.getfield 39, 3) := by decide +kernel
theorem dX12_lease_20 : decode cX12_lease 20 = .ok (.iload_n 1, 1) := by decide +kernel
theorem dX12_lease_21 : decode cX12_lease 21 = .ok (.iaload, 1) := by decide +kernel
theorem dX12_lease_22 : decode cX12_lease 22 = .ok (.iconst 2, 1) := by decide +kernel
theorem dX12_lease_23 : decode cX12_lease 23 = .ok (.if_icmp .ne 21, 3) := by decide +kernel
theorem dX12_lease_26 : decode cX12_lease 26 = .ok (.aload_n 0, 1) := by decide +kernel
theorem dX12_lease_27 : decode cX12_lease 27 = .ok (.getfield 75, 3) := by decide +kernel
theorem dX12_lease_30 : decode cX12_lease 30 = .ok (.iload_n 1, 1) := by decide +kernel
theorem dX12_lease_31 : decode cX12_lease 31 = .ok (.baload, 1) := by decide +kernel
theorem dX12_lease_32 : decode cX12_lease 32 = .ok (.ifCond .eq 12, 3) := by decide +kernel
theorem dX12_lease_35 : decode cX12_lease 35 = .ok (.aload_n 0, 1) := by decide +kernel
theorem dX12_lease_36 : decode cX12_lease 36 = .ok (.getfield 78, 3) := by decide +kernel
theorem dX12_lease_39 : decode cX12_lease 39 = .ok (.iload_n 1, 1) := by decide +kernel
theorem dX12_lease_40 : decode cX12_lease 40 = .ok (.faload, 1) := by decide +kernel
theorem dX12_lease_41 : decode cX12_lease 41 = .ok (.goto 6, 3) := by decide +kernel
theorem dX12_lease_44 : decode cX12_lease 44 = .ok (.ldc_w 270, 3) := by decide +kernel
theorem dX12_lease_47 : decode cX12_lease 47 = .ok (.freturn, 1) := by decide +kernel
theorem dX12_leases__0 : decode cX12_leases_ 0 = .ok (.aload_n 0, 1) := by decide +kernel
theorem dX12_leases__1 : decode cX12_leases_ 1 = .ok (.iconst 0, 1) := by decide +kernel
theorem dX12_leases__2 : decode cX12_leases_ 2 = .ok (.putfield 151, 3) := by decide +kernel
theorem dX12_leases__5 : decode cX12_leases_ 5 = .ok (.iconst 0, 1) := by decide +kernel
theorem dX12_leases__6 : decode cX12_leases_ 6 = .ok (.istore_n 1, 1) := by decide +kernel
theorem dX12_leases__7 : decode cX12_leases_ 7 = .ok (.iconst 0, 1) := by decide +kernel
theorem dX12_leases__8 : decode cX12_leases_ 8 = .ok (.istore_n 2, 1) := by decide +kernel
theorem dX12_leases__9 : decode cX12_leases_ 9 = .ok (.iload_n 2, 1) := by decide +kernel
theorem dX12_leases__10 : decode cX12_leases_ 10 = .ok (.aload_n 0, 1) := by decide +kernel
theorem dX12_leases__11 : decode cX12_leases_ 11 = .ok (.getfield 7, 3) := by decide +kernel
theorem dX12_leases__14 : decode cX12_leases_ 14 = .ok (.if_icmp .ge 25, 3) := by decide +kernel
theorem dX12_leases__17 : decode cX12_leases_ 17 = .ok (.iload_n 1, 1) := by decide +kernel
theorem dX12_leases__18 : decode cX12_leases_ 18 = .ok (.aload_n 0, 1) := by decide +kernel
theorem dX12_leases__19 : decode cX12_leases_ 19 = .ok (.iload_n 2, 1) := by decide +kernel
theorem dX12_leases__20 : decode cX12_leases_ 20 = .ok (.invokevirtual 264, 3) := by decide +kernel
theorem dX12_leases__23 : decode cX12_leases_ 23 = .ok (.ifCond .eq 7, 3) := by decide +kernel
theorem dX12_leases__26 : decode cX12_leases_ 26 = .ok (.iconst 1, 1) := by decide +kernel
theorem dX12_leases__27 : decode cX12_leases_ 27 = .ok (.goto 4, 3) := by decide +kernel
theorem dX12_leases__30 : decode cX12_leases_ 30 = .ok (.iconst 0, 1) := by decide +kernel
theorem dX12_leases__31 : decode cX12_leases_ 31 = .ok (.iadd, 1) := by decide +kernel
theorem dX12_leases__32 : decode cX12_leases_ 32 = .ok (.istore_n 1, 1) := by decide +kernel
theorem dX12_leases__33 : decode cX12_leases_ 33 = .ok (.iinc 2 1, 3) := by decide +kernel
theorem dX12_leases__36 : decode cX12_leases_ 36 = .ok (.goto (-27), 3) := by decide +kernel
theorem dX12_leases__39 : decode cX12_leases_ 39 = .ok (.iload_n 1, 1) := by decide +kernel
theorem dX12_leases__40 : decode cX12_leases_ 40 = .ok (.ireturn, 1) := by decide +kernel
theorem dX12_decision_0 : decode cX12_decision 0 = .ok (.aload_n 0, 1) := by decide +kernel
theorem dX12_decision_1 : decode cX12_decision 1 = .ok (.iload_n 1, 1) := by decide +kernel
theorem dX12_decision_2 : decode cX12_decision 2 = .ok (.invokevirtual 181, 3) := by decide +kernel
theorem dX12_decision_5 : decode cX12_decision 5 = .ok (.ifCond .eq 16, 3) := by decide +kernel
theorem dX12_decision_8 : decode cX12_decision 8 = .ok (.iload_n 2, 1) := by decide +kernel
theorem dX12_decision_9 : decode cX12_decision 9 = .ok (.iconst 0, 1) := by decide +kernel
theorem dX12_decision_10 : decode cX12_decision 10 = .ok (.iconst 3, 1) := by decide +kernel
theorem dX12_decision_11 : decode cX12_decision 11 = .ok (.invokestatic 154, 3) := by decide +kernel
theorem dX12_decision_14 : decode cX12_decision 14 = .ok (.ifCond .eq 7, 3) := by decide +kernel
theorem dX12_decision_17 : decode cX12_decision 17 = .ok (.iconst 1, 1) := by decide +kernel
theorem dX12_decision_18 : decode cX12_decision 18 = .ok (.goto 4, 3) := by decide +kernel
theorem dX12_decision_21 : decode cX12_decision 21 = .ok (.iconst 0, 1) := by decide +kernel
theorem dX12_decision_22 : decode cX12_decision 22 = .ok (.istore 4, 2) := by decide +kernel
theorem dX12_decision_24 : decode cX12_decision 24 = .ok (.aload_n 0, 1) := by decide +kernel
theorem dX12_decision_25 : decode cX12_decision 25 = .ok (.iload 4, 2) := by decide +kernel
theorem dX12_decision_27 : decode cX12_decision 27 = .ok (.iload_n 3, 1) := by decide +kernel
theorem dX12_decision_28 : decode cX12_decision 28 = .ok (.iconst 0, 1) := by decide +kernel
theorem dX12_decision_29 : decode cX12_decision 29 = .ok (.iconst 3, 1) := by decide +kernel
theorem dX12_decision_30 : decode cX12_decision 30 = .ok (.invokestatic 154, 3) := by decide +kernel
theorem dX12_decision_33 : decode cX12_decision 33 = .ok (.iconst 1, 1) := by decide +kernel
theorem dX12_decision_34 : decode cX12_decision 34 = .ok (.invokevirtual 173, 3) := by decide +kernel
theorem dX12_decision_37 : decode cX12_decision 37 = .ok (.ifCond .ne 5, 3) := by decide +kernel
theorem dX12_decision_40 : decode cX12_decision 40 = .ok (.iconst 0, 1) := by decide +kernel
theorem dX12_decision_41 : decode cX12_decision 41 = .ok (.ireturn, 1) := by decide +kernel
theorem dX12_decision_42 : decode cX12_decision 42 = .ok (.iconst 4, 1) := by decide +kernel
theorem dX12_decision_43 : decode cX12_decision 43 = .ok (.iload_n 1, 1) := by decide +kernel
theorem dX12_decision_44 : decode cX12_decision 44 = .ok (.imul, 1) := by decide +kernel
theorem dX12_decision_45 : decode cX12_decision 45 = .ok (.iload_n 2, 1) := by decide +kernel
theorem dX12_decision_46 : decode cX12_decision 46 = .ok (.iadd, 1) := by decide +kernel
theorem dX12_decision_47 : decode cX12_decision 47 = .ok (.istore 5, 2) := by decide +kernel
theorem dX12_decision_49 : decode cX12_decision 49 = .ok (.iload_n 3, 1) := by decide +kernel
theorem dX12_decision_50 : decode cX12_decision 50 = .ok (.ifCond .ne 13, 3) := by decide +kernel
theorem dX12_decision_53 : decode cX12_decision 53 = .ok (.aload_n 0, 1) := by decide +kernel
theorem dX12_decision_54 : decode cX12_decision 54 = .ok (.getfield 87, 3) := by decide +kernel
theorem dX12_decision_57 : decode cX12_decision 57 = .ok (.iload 5, 2) := by decide +kernel
theorem dX12_decision_59 : decode cX12_decision 59 = .ok (.iaload, 1) := by decide +kernel
theorem dX12_decision_60 : decode cX12_decision 60 = .ok (.goto 40, 3) := by decide +kernel
theorem dX12_decision_63 : decode cX12_decision 63 = .ok (.iload_n 3, 1) := by decide +kernel
theorem dX12_decision_64 : decode cX12_decision 64 = .ok (.iconst 1, 1) := by decide +kernel
theorem dX12_decision_65 : decode cX12_decision 65 = .ok (.if_icmp .ne 13, 3) := by decide +kernel
theorem dX12_decision_68 : decode cX12_decision 68 = .ok (.aload_n 0, 1) := by decide +kernel
theorem dX12_decision_69 : decode cX12_decision 69 = .ok (.getfield 90, 3) := by decide +kernel
theorem dX12_decision_72 : decode cX12_decision 72 = .ok (.iload 5, 2) := by decide +kernel
theorem dX12_decision_74 : decode cX12_decision 74 = .ok (.iaload, 1) := by decide +kernel
theorem dX12_decision_75 : decode cX12_decision 75 = .ok (.goto 25, 3) := by decide +kernel
theorem dX12_decision_78 : decode cX12_decision 78 = .ok (.iload_n 3, 1) := by decide +kernel
theorem dX12_decision_79 : decode cX12_decision 79 = .ok (.iconst 2, 1) := by decide +kernel
theorem dX12_decision_80 : decode cX12_decision 80 = .ok (.if_icmp .ne 13, 3) := by decide +kernel
theorem dX12_decision_83 : decode cX12_decision 83 = .ok (.aload_n 0, 1) := by decide +kernel
theorem dX12_decision_84 : decode cX12_decision 84 = .ok (.getfield 93, 3) := by decide +kernel
theorem dX12_decision_87 : decode cX12_decision 87 = .ok (.iload 5, 2) := by decide +kernel
theorem dX12_decision_89 : decode cX12_decision 89 = .ok (.iaload, 1) := by decide +kernel
theorem dX12_decision_90 : decode cX12_decision 90 = .ok (.goto 10, 3) := by decide +kernel
theorem dX12_decision_93 : decode cX12_decision 93 = .ok (.aload_n 0, 1) := by decide +kernel
theorem dX12_decision_94 : decode cX12_decision 94 = .ok (.getfield 96, 3) := by decide +kernel
theorem dX12_decision_97 : decode cX12_decision 97 = .ok (.iload 5, 2) := by decide +kernel
theorem dX12_decision_99 : decode cX12_decision 99 = .ok (.iaload, 1) := by decide +kernel
theorem dX12_decision_100 : decode cX12_decision 100 = .ok (.ireturn, 1) := by decide +kernel
theorem dX12_acts__0 : decode cX12_acts_ 0 = .ok (.aload_n 0, 1) := by decide +kernel
theorem dX12_acts__1 : decode cX12_acts_ 1 = .ok (.iconst 0, 1) := by decide +kernel
theorem dX12_acts__2 : decode cX12_acts_ 2 = .ok (.putfield 151, 3) := by decide +kernel
theorem dX12_acts__5 : decode cX12_acts_ 5 = .ok (.aload_n 0, 1) := by decide +kernel
theorem dX12_acts__6 : decode cX12_acts_ 6 = .ok (.getfield 170, 3) := by decide +kernel
theorem dX12_acts__9 : decode cX12_acts_ 9 = .ok (.ireturn, 1) := by decide +kernel
theorem dX12_act_0 : decode cX12_act 0 = .ok (.aload_n 0, 1) := by decide +kernel
theorem dX12_act_1 : decode cX12_act 1 = .ok (.iload_n 1, 1) := by decide +kernel
theorem dX12_act_2 : decode cX12_act 2 = .ok (.iconst 0, 1) := by decide +kernel
theorem dX12_act_3 : decode cX12_act 3 = .ok (.aload_n 0, 1) := by decide +kernel
theorem dX12_act_4 : decode cX12_act 4 = .ok (.getfield 170, 3) := by decide +kernel
theorem dX12_act_7 : decode cX12_act 7 = .ok (.iconst 1, 1) := by decide +kernel
theorem dX12_act_8 : decode cX12_act 8 = .ok (.isub, 1) := by decide +kernel
theorem dX12_act_9 : decode cX12_act 9 = .ok (.invokestatic 154, 3) := by decide +kernel
theorem dX12_act_12 : decode cX12_act 12 = .ok (.iload_n 2, 1) := by decide +kernel
theorem dX12_act_13 : decode cX12_act 13 = .ok (.iconst 0, 1) := by decide +kernel
theorem dX12_act_14 : decode cX12_act 14 = .ok (.iconst 3, 1) := by decide +kernel
theorem dX12_act_15 : decode cX12_act 15 = .ok (.invokestatic 154, 3) := by decide +kernel
theorem dX12_act_18 : decode cX12_act 18 = .ok (.iconst 1, 1) := by decide +kernel
theorem dX12_act_19 : decode cX12_act 19 = .ok (.invokevirtual 173, 3) := by decide +kernel
theorem dX12_act_22 : decode cX12_act 22 = .ok (.ifCond .ne 5, 3) := by decide +kernel
theorem dX12_act_25 : decode cX12_act 25 = .ok (.iconst 0, 1) := by decide +kernel
theorem dX12_act_26 : decode cX12_act 26 = .ok (.ireturn, 1) := by decide +kernel
theorem dX12_act_27 : decode cX12_act 27 = .ok (.iload_n 2, 1) := by decide +kernel
theorem dX12_act_28 : decode cX12_act 28 = .ok (.ifCond .ne 20, 3) := by decide +kernel
theorem dX12_act_31 : decode cX12_act 31 = .ok (.aload_n 0, 1) := by decide +kernel
theorem dX12_act_32 : decode cX12_act 32 = .ok (.getfield 123, 3) := by decide +kernel
theorem dX12_act_35 : decode cX12_act 35 = .ok (.iload_n 1, 1) := by decide +kernel
theorem dX12_act_36 : decode cX12_act 36 = .ok (.baload, 1) := by decide +kernel
theorem dX12_act_37 : decode cX12_act 37 = .ok (.ifCond .eq 7, 3) := by decide +kernel
theorem dX12_act_40 : decode cX12_act 40 = .ok (.iconst 1, 1) := by decide +kernel
theorem dX12_act_41 : decode cX12_act 41 = .ok (.goto 41, 3) := by decide +kernel
theorem dX12_act_44 : decode cX12_act 44 = .ok (.iconst 0, 1) := by decide +kernel
theorem dX12_act_45 : decode cX12_act 45 = .ok (.goto 37, 3) := by decide +kernel
theorem dX12_act_48 : decode cX12_act 48 = .ok (.iload_n 2, 1) := by decide +kernel
theorem dX12_act_49 : decode cX12_act 49 = .ok (.iconst 1, 1) := by decide +kernel
theorem dX12_act_50 : decode cX12_act 50 = .ok (.if_icmp .ne 12, 3) := by decide +kernel
theorem dX12_act_53 : decode cX12_act 53 = .ok (.aload_n 0, 1) := by decide +kernel
theorem dX12_act_54 : decode cX12_act 54 = .ok (.getfield 132, 3) := by decide +kernel
theorem dX12_act_57 : decode cX12_act 57 = .ok (.iload_n 1, 1) := by decide +kernel
theorem dX12_act_58 : decode cX12_act 58 = .ok (.iaload, 1) := by decide +kernel
theorem dX12_act_59 : decode cX12_act 59 = .ok (.goto 23, 3) := by decide +kernel
theorem dX12_act_62 : decode cX12_act 62 = .ok (.iload_n 2, 1) := by decide +kernel
theorem dX12_act_63 : decode cX12_act 63 = .ok (.iconst 2, 1) := by decide +kernel
theorem dX12_act_64 : decode cX12_act 64 = .ok (.if_icmp .ne 12, 3) := by decide +kernel
theorem dX12_act_67 : decode cX12_act 67 = .ok (.aload_n 0, 1) := by decide +kernel
theorem dX12_act_68 : decode cX12_act 68 = .ok (.getfield 135, 3) := by decide +kernel
theorem dX12_act_71 : decode cX12_act 71 = .ok (.iload_n 1, 1) := by decide +kernel
theorem dX12_act_72 : decode cX12_act 72 = .ok (.iaload, 1) := by decide +kernel
theorem dX12_act_73 : decode cX12_act 73 = .ok (.goto 9, 3) := by decide +kernel
theorem dX12_act_76 : decode cX12_act 76 = .ok (.aload_n 0, 1) := by decide +kernel
theorem dX12_act_77 : decode cX12_act 77 = .ok (.getfield 138, 3) := by decide +kernel
theorem dX12_act_80 : decode cX12_act 80 = .ok (.iload_n 1, 1) := by decide +kernel
theorem dX12_act_81 : decode cX12_act 81 = .ok (.iaload, 1) := by decide +kernel
theorem dX12_act_82 : decode cX12_act 82 = .ok (.ireturn, 1) := by decide +kernel
theorem dX12_mayCome_0 : decode cX12_mayCome 0 = .ok (.iconst 1, 1) := by decide +kernel
theorem dX12_mayCome_1 : decode cX12_mayCome 1 = .ok (.istore_n 3, 1) := by decide +kernel
theorem dX12_mayCome_2 : decode cX12_mayCome 2 = .ok (.iconst 0, 1) := by decide +kernel
theorem dX12_mayCome_3 : decode cX12_mayCome 3 = .ok (.istore 4, 2) := by decide +kernel
theorem dX12_mayCome_5 : decode cX12_mayCome 5 = .ok (.iload 4, 2) := by decide +kernel
theorem dX12_mayCome_7 : decode cX12_mayCome 7 = .ok (.aload_n 0, 1) := by decide +kernel
theorem dX12_mayCome_8 : decode cX12_mayCome 8 = .ok (.getfield 170, 3) := by decide +kernel
theorem dX12_mayCome_11 : decode cX12_mayCome 11 = .ok (.if_icmp .ge 56, 3) := by decide +kernel
theorem dX12_mayCome_14 : decode cX12_mayCome 14 = .ok (.iload_n 3, 1) := by decide +kernel
theorem dX12_mayCome_15 : decode cX12_mayCome 15 = .ok (.ifCond .eq 44, 3) := by decide +kernel
theorem dX12_mayCome_18 : decode cX12_mayCome 18 = .ok (.iload_n 1, 1) := by decide +kernel
theorem dX12_mayCome_19 : decode cX12_mayCome 19 = .ok (.iload 4, 2) := by decide +kernel
theorem dX12_mayCome_21 : decode cX12_mayCome 21 = .ok (.ishr, 1) := by decide +kernel
theorem dX12_mayCome_22 : decode cX12_mayCome 22 = .ok (.iconst 1, 1) := by decide +kernel
theorem dX12_mayCome_23 : decode cX12_mayCome 23 = .ok (.iand, 1) := by decide +kernel
theorem dX12_mayCome_24 : decode cX12_mayCome 24 = .ok (.iconst 1, 1) := by decide +kernel
theorem dX12_mayCome_25 : decode cX12_mayCome 25 = .ok (.if_icmp .eq 30, 3) := by decide +kernel
theorem dX12_mayCome_28 : decode cX12_mayCome 28 = .ok (.aload_n 0, 1) := by decide +kernel
theorem dX12_mayCome_29 : decode cX12_mayCome 29 = .ok (.getfield 138, 3) := by decide +kernel
theorem dX12_mayCome_32 : decode cX12_mayCome 32 = .ok (.iload 4, 2) := by decide +kernel
theorem dX12_mayCome_34 : decode cX12_mayCome 34 = .ok (.iaload, 1) := by decide +kernel
theorem dX12_mayCome_35 : decode cX12_mayCome 35 = .ok (.iconst (-1), 1) := by decide +kernel
theorem dX12_mayCome_36 : decode cX12_mayCome 36 = .ok (.if_icmp .eq 19, 3) := by decide +kernel
theorem dX12_mayCome_39 : decode cX12_mayCome 39 = .ok (.aload_n 0, 1) := by decide +kernel
theorem dX12_mayCome_40 : decode cX12_mayCome 40 = .ok (.getfield 138, 3) := by decide +kernel
theorem dX12_mayCome_43 : decode cX12_mayCome 43 = .ok (.iload 4, 2) := by decide +kernel
theorem dX12_mayCome_45 : decode cX12_mayCome 45 = .ok (.iaload, 1) := by decide +kernel
theorem dX12_mayCome_46 : decode cX12_mayCome 46 = .ok (.aload_n 0, 1) := by decide +kernel
theorem dX12_mayCome_47 : decode cX12_mayCome 47 = .ok (.getfield 135, 3) := by decide +kernel
theorem dX12_mayCome_50 : decode cX12_mayCome 50 = .ok (.iload_n 2, 1) := by decide +kernel
theorem dX12_mayCome_51 : decode cX12_mayCome 51 = .ok (.iaload, 1) := by decide +kernel
theorem dX12_mayCome_52 : decode cX12_mayCome 52 = .ok (.if_icmp .lt 7, 3) := by decide +kernel
theorem dX12_mayCome_55 : decode cX12_mayCome 55 = .ok (.iconst 1, 1) := by decide +kernel
theorem dX12_mayCome_56 : decode cX12_mayCome 56 = .ok (.goto 4, 3) := by decide +kernel
theorem dX12_mayCome_59 : decode cX12_mayCome 59 = .ok (.iconst 0, 1) := by decide +kernel
theorem dX12_mayCome_60 : decode cX12_mayCome 60 = .ok (.istore_n 3, 1) := by decide +kernel
theorem dX12_mayCome_61 : decode cX12_mayCome 61 = .ok (.iinc 4 1, 3) := by decide +kernel
theorem dX12_mayCome_64 : decode cX12_mayCome 64 = .ok (.goto (-59), 3) := by decide +kernel
theorem dX12_mayCome_67 : decode cX12_mayCome 67 = .ok (.iload_n 3, 1) := by decide +kernel
theorem dX12_mayCome_68 : decode cX12_mayCome 68 = .ok (.ireturn, 1) := by decide +kernel
theorem dX12_isInOrder_0 : decode cX12_isInOrder 0 = .ok (.aload_n 0, 1) := by decide +kernel
theorem dX12_isInOrder_1 : decode cX12_isInOrder 1 = .ok (.iconst 0, 1) := by decide +kernel
theorem dX12_isInOrder_2 : decode cX12_isInOrder 2 = .ok (.putfield 151, 3) := by decide +kernel
theorem dX12_isInOrder_5 : decode cX12_isInOrder 5 = .ok (.iconst 1, 1) := by decide +kernel
theorem dX12_isInOrder_6 : decode cX12_isInOrder 6 = .ok (.aload_n 0, 1) := by decide +kernel
theorem dX12_isInOrder_7 : decode cX12_isInOrder 7 = .ok (.getfield 170, 3) := by decide +kernel
theorem dX12_isInOrder_10 : decode cX12_isInOrder 10 = .ok (.ishl, 1) := by decide +kernel
theorem dX12_isInOrder_11 : decode cX12_isInOrder 11 = .ok (.istore_n 1, 1) := by decide +kernel
theorem dX12_isInOrder_12 : decode cX12_isInOrder 12 = .ok (.iconst 0, 1) := by decide +kernel
theorem dX12_isInOrder_13 : decode cX12_isInOrder 13 = .ok (.istore_n 2, 1) := by decide +kernel
theorem dX12_isInOrder_14 : decode cX12_isInOrder 14 = .ok (.iconst 0, 1) := by decide +kernel
theorem dX12_isInOrder_15 : decode cX12_isInOrder 15 = .ok (.istore_n 3, 1) := by decide +kernel
theorem dX12_isInOrder_16 : decode cX12_isInOrder 16 = .ok (.iload_n 3, 1) := by decide +kernel
theorem dX12_isInOrder_17 : decode cX12_isInOrder 17 = .ok (.aload_n 0, 1) := by decide +kernel
theorem dX12_isInOrder_18 : decode cX12_isInOrder 18 = .ok (.getfield 170, 3) := by decide +kernel
theorem dX12_isInOrder_21 : decode cX12_isInOrder 21 = .ok (.if_icmp .ge 29, 3) := by decide +kernel
theorem dX12_isInOrder_24 : decode cX12_isInOrder 24 = .ok (.iload_n 2, 1) := by decide +kernel
theorem dX12_isInOrder_25 : decode cX12_isInOrder 25 = .ok (.aload_n 0, 1) := by decide +kernel
theorem dX12_isInOrder_26 : decode cX12_isInOrder 26 = .ok (.getfield 138, 3) := by decide +kernel
theorem dX12_isInOrder_29 : decode cX12_isInOrder 29 = .ok (.iload_n 3, 1) := by decide +kernel
theorem dX12_isInOrder_30 : decode cX12_isInOrder 30 = .ok (.iaload, 1) := by decide +kernel
theorem dX12_isInOrder_31 : decode cX12_isInOrder 31 = .ok (.iconst (-1), 1) := by decide +kernel
theorem dX12_isInOrder_32 : decode cX12_isInOrder 32 = .ok (.if_icmp .ne 7, 3) := by decide +kernel
theorem dX12_isInOrder_35 : decode cX12_isInOrder 35 = .ok (.iconst 0, 1) := by decide +kernel
theorem dX12_isInOrder_36 : decode cX12_isInOrder 36 = .ok (.goto 6, 3) := by decide +kernel
theorem dX12_isInOrder_39 : decode cX12_isInOrder 39 = .ok (.iconst 1, 1) := by decide +kernel
theorem dX12_isInOrder_40 : decode cX12_isInOrder 40 = .ok (.iload_n 3, 1) := by decide +kernel
theorem dX12_isInOrder_41 : decode cX12_isInOrder 41 = .ok (.ishl, 1) := by decide +kernel
theorem dX12_isInOrder_42 : decode cX12_isInOrder 42 = .ok (.ior, 1) := by decide +kernel
theorem dX12_isInOrder_43 : decode cX12_isInOrder 43 = .ok (.istore_n 2, 1) := by decide +kernel
theorem dX12_isInOrder_44 : decode cX12_isInOrder 44 = .ok (.iinc 3 1, 3) := by decide +kernel
theorem dX12_isInOrder_47 : decode cX12_isInOrder 47 = .ok (.goto (-31), 3) := by decide +kernel
theorem dX12_isInOrder_50 : decode cX12_isInOrder 50 = .ok (.iconst 0, 1) := by decide +kernel
theorem dX12_isInOrder_51 : decode cX12_isInOrder 51 = .ok (.istore_n 3, 1) := by decide +kernel
theorem dX12_isInOrder_52 : decode cX12_isInOrder 52 = .ok (.iload_n 3, 1) := by decide +kernel
theorem dX12_isInOrder_53 : decode cX12_isInOrder 53 = .ok (.iload_n 1, 1) := by decide +kernel
theorem dX12_isInOrder_54 : decode cX12_isInOrder 54 = .ok (.if_icmp .ge 16, 3) := by decide +kernel
theorem dX12_isInOrder_57 : decode cX12_isInOrder 57 = .ok (.aload_n 0, 1) := by decide +kernel
theorem dX12_isInOrder_58 : decode cX12_isInOrder 58 = .ok (.getfield 141, 3) := by decide +kernel
theorem dX12_isInOrder_61 : decode cX12_isInOrder 61 = .ok (.iload_n 3, 1) := by decide +kernel
theorem dX12_isInOrder_62 : decode cX12_isInOrder 62 = .ok (.iconst 0, 1) := by decide +kernel
theorem dX12_isInOrder_63 : decode cX12_isInOrder 63 = .ok (.iastore, 1) := by decide +kernel
theorem dX12_isInOrder_64 : decode cX12_isInOrder 64 = .ok (.iinc 3 1, 3) := by decide +kernel
theorem dX12_isInOrder_67 : decode cX12_isInOrder 67 = .ok (.goto (-15), 3) := by decide +kernel
theorem dX12_isInOrder_70 : decode cX12_isInOrder 70 = .ok (.aload_n 0, 1) := by decide +kernel
theorem dX12_isInOrder_71 : decode cX12_isInOrder 71 = .ok (.getfield 141, 3) := by decide +kernel
theorem dX12_isInOrder_74 : decode cX12_isInOrder 74 = .ok (.iconst 0, 1) := by decide +kernel
theorem dX12_isInOrder_75 : decode cX12_isInOrder 75 = .ok (.sipush 16384, 3) := by decide +kernel
theorem dX12_isInOrder_78 : decode cX12_isInOrder 78 = .ok (.iastore, 1) := by decide +kernel
theorem dX12_isInOrder_79 : decode cX12_isInOrder 79 = .ok (.iconst 0, 1) := by decide +kernel
theorem dX12_isInOrder_80 : decode cX12_isInOrder 80 = .ok (.istore_n 3, 1) := by decide +kernel
theorem dX12_isInOrder_81 : decode cX12_isInOrder 81 = .ok (.iload_n 3, 1) := by decide +kernel
theorem dX12_isInOrder_82 : decode cX12_isInOrder 82 = .ok (.iload_n 1, 1) := by decide +kernel
theorem dX12_isInOrder_83 : decode cX12_isInOrder 83 = .ok (.if_icmp .ge 183, 3) := by decide +kernel
theorem dX12_isInOrder_86 : decode cX12_isInOrder 86 = .ok (.aload_n 0, 1) := by decide +kernel
theorem dX12_isInOrder_87 : decode cX12_isInOrder 87 = .ok (.getfield 141, 3) := by decide +kernel
theorem dX12_isInOrder_90 : decode cX12_isInOrder 90 = .ok (.iload_n 3, 1) := by decide +kernel
theorem dX12_isInOrder_91 : decode cX12_isInOrder 91 = .ok (.iaload, 1) := by decide +kernel
theorem dX12_isInOrder_92 : decode cX12_isInOrder 92 = .ok (.ifCond .eq 12, 3) := by decide +kernel
theorem dX12_isInOrder_95 : decode cX12_isInOrder 95 = .ok (.iload_n 3, 1) := by decide +kernel
theorem dX12_isInOrder_96 : decode cX12_isInOrder 96 = .ok (.iload_n 2, 1) := by decide +kernel
theorem dX12_isInOrder_97 : decode cX12_isInOrder 97 = .ok (.iand, 1) := by decide +kernel
theorem dX12_isInOrder_98 : decode cX12_isInOrder 98 = .ok (.iload_n 2, 1) := by decide +kernel
theorem dX12_isInOrder_99 : decode cX12_isInOrder 99 = .ok (.if_icmp .ne 5, 3) := by decide +kernel
theorem dX12_isInOrder_102 : decode cX12_isInOrder 102 = .ok (.iconst 1, 1) := by decide +kernel
theorem dX12_isInOrder_103 : decode cX12_isInOrder 103 = .ok (.ireturn, 1) := by decide +kernel
theorem dX12_isInOrder_104 : decode cX12_isInOrder 104 = .ok (.iconst 0, 1) := by decide +kernel
theorem dX12_isInOrder_105 : decode cX12_isInOrder 105 = .ok (.istore 4, 2) := by decide +kernel
theorem dX12_isInOrder_107 : decode cX12_isInOrder 107 = .ok (.iload 4, 2) := by decide +kernel
theorem dX12_isInOrder_109 : decode cX12_isInOrder 109 = .ok (.aload_n 0, 1) := by decide +kernel
theorem dX12_isInOrder_110 : decode cX12_isInOrder 110 = .ok (.getfield 170, 3) := by decide +kernel
theorem dX12_isInOrder_113 : decode cX12_isInOrder 113 = .ok (.if_icmp .ge 147, 3) := by decide +kernel
theorem dX12_isInOrder_116 : decode cX12_isInOrder 116 = .ok (.aload_n 0, 1) := by decide +kernel
theorem dX12_isInOrder_117 : decode cX12_isInOrder 117 = .ok (.getfield 141, 3) := by decide +kernel
theorem dX12_isInOrder_120 : decode cX12_isInOrder 120 = .ok (.iload_n 3, 1) := by decide +kernel
theorem dX12_isInOrder_121 : decode cX12_isInOrder 121 = .ok (.iaload, 1) := by decide +kernel
theorem dX12_isInOrder_122 : decode cX12_isInOrder 122 = .ok (.ifCond .eq 138, 3) := by decide +kernel
theorem dX12_isInOrder_125 : decode cX12_isInOrder 125 = .ok (.iload_n 3, 1) := by decide +kernel
theorem dX12_isInOrder_126 : decode cX12_isInOrder 126 = .ok (.iload 4, 2) := by decide +kernel
theorem dX12_isInOrder_128 : decode cX12_isInOrder 128 = .ok (.ishr, 1) := by decide +kernel
theorem dX12_isInOrder_129 : decode cX12_isInOrder 129 = .ok (.iconst 1, 1) := by decide +kernel
theorem dX12_isInOrder_130 : decode cX12_isInOrder 130 = .ok (.iand, 1) := by decide +kernel
theorem dX12_isInOrder_131 : decode cX12_isInOrder 131 = .ok (.ifCond .ne 123, 3) := by decide +kernel
theorem dX12_isInOrder_134 : decode cX12_isInOrder 134 = .ok (.aload_n 0, 1) := by decide +kernel
theorem dX12_isInOrder_135 : decode cX12_isInOrder 135 = .ok (.iload_n 3, 1) := by decide +kernel
theorem dX12_isInOrder_136 : decode cX12_isInOrder 136 = .ok (.iload 4, 2) := by decide +kernel
theorem dX12_isInOrder_138 : decode cX12_isInOrder 138 = .ok (.invokevirtual 271, 3) := by decide +kernel
theorem dX12_isInOrder_141 : decode cX12_isInOrder 141 = .ok (.ifCond .eq 113, 3) := by decide +kernel
theorem dX12_isInOrder_144 : decode cX12_isInOrder 144 = .ok (.iload_n 3, 1) := by decide +kernel
theorem dX12_isInOrder_145 : decode cX12_isInOrder 145 = .ok (.iconst 1, 1) := by decide +kernel
theorem dX12_isInOrder_146 : decode cX12_isInOrder 146 = .ok (.iload 4, 2) := by decide +kernel
theorem dX12_isInOrder_148 : decode cX12_isInOrder 148 = .ok (.ishl, 1) := by decide +kernel
theorem dX12_isInOrder_149 : decode cX12_isInOrder 149 = .ok (.ior, 1) := by decide +kernel
theorem dX12_isInOrder_150 : decode cX12_isInOrder 150 = .ok (.istore 5, 2) := by decide +kernel
theorem dX12_isInOrder_152 : decode cX12_isInOrder 152 = .ok (.iconst 0, 1) := by decide +kernel
theorem dX12_isInOrder_153 : decode cX12_isInOrder 153 = .ok (.istore 6, 2) := by decide +kernel
theorem dX12_isInOrder_155 : decode cX12_isInOrder 155 = .ok (.iload 6, 2) := by decide +kernel
theorem dX12_isInOrder_157 : decode cX12_isInOrder 157 = .ok (.bipush 15, 2) := by decide +kernel
theorem dX12_isInOrder_159 : decode cX12_isInOrder 159 = .ok (.if_icmp .ge 95, 3) := by decide +kernel
theorem dX12_isInOrder_162 : decode cX12_isInOrder 162 = .ok (.iload 6, 2) := by decide +kernel
theorem dX12_isInOrder_164 : decode cX12_isInOrder 164 = .ok (.bipush 14, 2) := by decide +kernel
theorem dX12_isInOrder_166 : decode cX12_isInOrder 166 = .ok (.if_icmp .ne 7, 3) := by decide +kernel
theorem dX12_isInOrder_169 : decode cX12_isInOrder 169 = .ok (.iconst 0, 1) := by decide +kernel
theorem dX12_isInOrder_170 : decode cX12_isInOrder 170 = .ok (.goto 10, 3) := by decide +kernel
theorem dX12_isInOrder_173 : decode cX12_isInOrder 173 = .ok (.aload_n 0, 1) := by decide +kernel
theorem dX12_isInOrder_174 : decode cX12_isInOrder 174 = .ok (.getfield 132, 3) := by decide +kernel
theorem dX12_isInOrder_177 : decode cX12_isInOrder 177 = .ok (.iload 6, 2) := by decide +kernel
theorem dX12_isInOrder_179 : decode cX12_isInOrder 179 = .ok (.iaload, 1) := by decide +kernel
theorem dX12_isInOrder_180 : decode cX12_isInOrder 180 = .ok (.istore 7, 2) := by decide +kernel
theorem dX12_isInOrder_182 : decode cX12_isInOrder 182 = .ok (.aload_n 0, 1) := by decide +kernel
theorem dX12_isInOrder_183 : decode cX12_isInOrder 183 = .ok (.getfield 141, 3) := by decide +kernel
theorem dX12_isInOrder_186 : decode cX12_isInOrder 186 = .ok (.iload_n 3, 1) := by decide +kernel
theorem dX12_isInOrder_187 : decode cX12_isInOrder 187 = .ok (.iaload, 1) := by decide +kernel
theorem dX12_isInOrder_188 : decode cX12_isInOrder 188 = .ok (.iload 6, 2) := by decide +kernel
theorem dX12_isInOrder_190 : decode cX12_isInOrder 190 = .ok (.ishr, 1) := by decide +kernel
theorem dX12_isInOrder_191 : decode cX12_isInOrder 191 = .ok (.iconst 1, 1) := by decide +kernel
theorem dX12_isInOrder_192 : decode cX12_isInOrder 192 = .ok (.iand, 1) := by decide +kernel
theorem dX12_isInOrder_193 : decode cX12_isInOrder 193 = .ok (.iconst 1, 1) := by decide +kernel
theorem dX12_isInOrder_194 : decode cX12_isInOrder 194 = .ok (.if_icmp .ne 54, 3) := by decide +kernel
theorem dX12_isInOrder_197 : decode cX12_isInOrder 197 = .ok (.aload_n 0, 1) := by decide +kernel
theorem dX12_isInOrder_198 : decode cX12_isInOrder 198 = .ok (.getfield 123, 3) := by decide +kernel
theorem dX12_isInOrder_201 : decode cX12_isInOrder 201 = .ok (.iload 4, 2) := by decide +kernel
theorem dX12_isInOrder_203 : decode cX12_isInOrder 203 = .ok (.baload, 1) := by decide +kernel
theorem dX12_isInOrder_204 : decode cX12_isInOrder 204 = .ok (.ifCond .ne 15, 3) := by decide +kernel
theorem dX12_isInOrder_207 : decode cX12_isInOrder 207 = .ok (.aload_n 0, 1) := by decide +kernel
theorem dX12_isInOrder_208 : decode cX12_isInOrder 208 = .ok (.getfield 132, 3) := by decide +kernel
theorem dX12_isInOrder_211 : decode cX12_isInOrder 211 = .ok (.iload 4, 2) := by decide +kernel
theorem dX12_isInOrder_213 : decode cX12_isInOrder 213 = .ok (.iaload, 1) := by decide +kernel
theorem dX12_isInOrder_214 : decode cX12_isInOrder 214 = .ok (.iload 7, 2) := by decide +kernel
theorem dX12_isInOrder_216 : decode cX12_isInOrder 216 = .ok (.if_icmp .ne 32, 3) := by decide +kernel
theorem dX12_isInOrder_219 : decode cX12_isInOrder 219 = .ok (.aload_n 0, 1) := by decide +kernel
theorem dX12_isInOrder_220 : decode cX12_isInOrder 220 = .ok (.getfield 141, 3) := by decide +kernel
theorem dX12_isInOrder_223 : decode cX12_isInOrder 223 = .ok (.iload 5, 2) := by decide +kernel
theorem dX12_isInOrder_225 : decode cX12_isInOrder 225 = .ok (.dup2, 1) := by decide +kernel
theorem dX12_isInOrder_226 : decode cX12_isInOrder 226 = .ok (.iaload, 1) := by decide +kernel
theorem dX12_isInOrder_227 : decode cX12_isInOrder 227 = .ok (.iconst 1, 1) := by decide +kernel
theorem dX12_isInOrder_228 : decode cX12_isInOrder 228 = .ok (.aload_n 0, 1) := by decide +kernel
theorem dX12_isInOrder_229 : decode cX12_isInOrder 229 = .ok (.getfield 123, 3) := by decide +kernel
theorem dX12_isInOrder_232 : decode cX12_isInOrder 232 = .ok (.iload 4, 2) := by decide +kernel
theorem dX12_isInOrder_234 : decode cX12_isInOrder 234 = .ok (.baload, 1) := by decide +kernel
theorem dX12_isInOrder_235 : decode cX12_isInOrder 235 = .ok (.ifCond .eq 8, 3) := by decide +kernel
theorem dX12_isInOrder_238 : decode cX12_isInOrder 238 = .ok (.iload 4, 2) := by decide +kernel
theorem dX12_isInOrder_240 : decode cX12_isInOrder 240 = .ok (.goto 5, 3) := by decide +kernel
theorem dX12_isInOrder_243 : decode cX12_isInOrder 243 = .ok (.iload 6, 2) := by decide +kernel
theorem dX12_isInOrder_245 : decode cX12_isInOrder 245 = .ok (.ishl, 1) := by decide +kernel
theorem dX12_isInOrder_246 : decode cX12_isInOrder 246 = .ok (.ior, 1) := by decide +kernel
theorem dX12_isInOrder_247 : decode cX12_isInOrder 247 = .ok (.iastore, 1) := by decide +kernel
theorem dX12_isInOrder_248 : decode cX12_isInOrder 248 = .ok (.iinc 6 1, 3) := by decide +kernel
theorem dX12_isInOrder_251 : decode cX12_isInOrder 251 = .ok (.goto (-96), 3) := by decide +kernel
theorem dX12_isInOrder_254 : decode cX12_isInOrder 254 = .ok (.iinc 4 1, 3) := by decide +kernel
theorem dX12_isInOrder_257 : decode cX12_isInOrder 257 = .ok (.goto (-150), 3) := by decide +kernel
theorem dX12_isInOrder_260 : decode cX12_isInOrder 260 = .ok (.iinc 3 1, 3) := by decide +kernel
theorem dX12_isInOrder_263 : decode cX12_isInOrder 263 = .ok (.goto (-182), 3) := by decide +kernel
theorem dX12_isInOrder_266 : decode cX12_isInOrder 266 = .ok (.iconst 0, 1) := by decide +kernel
theorem dX12_isInOrder_267 : decode cX12_isInOrder 267 = .ok (.ireturn, 1) := by decide +kernel
theorem dX12_areAlike_0 : decode cX12_areAlike 0 = .ok (.aload_n 0, 1) := by decide +kernel
theorem dX12_areAlike_1 : decode cX12_areAlike 1 = .ok (.getfield 45, 3) := by decide +kernel
theorem dX12_areAlike_4 : decode cX12_areAlike 4 = .ok (.iload_n 1, 1) := by decide +kernel
theorem dX12_areAlike_5 : decode cX12_areAlike 5 = .ok (.iaload, 1) := by decide +kernel
theorem dX12_areAlike_6 : decode cX12_areAlike 6 = .ok (.aload_n 0, 1) := by decide +kernel
theorem dX12_areAlike_7 : decode cX12_areAlike 7 = .ok (.getfield 45, 3) := by decide +kernel
theorem dX12_areAlike_10 : decode cX12_areAlike 10 = .ok (.iload_n 2, 1) := by decide +kernel
theorem dX12_areAlike_11 : decode cX12_areAlike 11 = .ok (.iaload, 1) := by decide +kernel
theorem dX12_areAlike_12 : decode cX12_areAlike 12 = .ok (.if_icmp .ge 12, 3) := by decide +kernel
theorem dX12_areAlike_15 : decode cX12_areAlike 15 = .ok (.aload_n 0, 1) := by decide +kernel
theorem dX12_areAlike_16 : decode cX12_areAlike 16 = .ok (.getfield 45, 3) := by decide +kernel
theorem dX12_areAlike_19 : decode cX12_areAlike 19 = .ok (.iload_n 1, 1) := by decide +kernel
theorem dX12_areAlike_20 : decode cX12_areAlike 20 = .ok (.iaload, 1) := by decide +kernel
theorem dX12_areAlike_21 : decode cX12_areAlike 21 = .ok (.goto 9, 3) := by decide +kernel
theorem dX12_areAlike_24 : decode cX12_areAlike 24 = .ok (.aload_n 0, 1) := by decide +kernel
theorem dX12_areAlike_25 : decode cX12_areAlike 25 = .ok (.getfield 45, 3) := by decide +kernel
theorem dX12_areAlike_28 : decode cX12_areAlike 28 = .ok (.iload_n 2, 1) := by decide +kernel
theorem dX12_areAlike_29 : decode cX12_areAlike 29 = .ok (.iaload, 1) := by decide +kernel
theorem dX12_areAlike_30 : decode cX12_areAlike 30 = .ok (.istore_n 3, 1) := by decide +kernel
theorem dX12_areAlike_31 : decode cX12_areAlike 31 = .ok (.iconst 1, 1) := by decide +kernel
theorem dX12_areAlike_32 : decode cX12_areAlike 32 = .ok (.istore 4, 2) := by decide +kernel
theorem dX12_areAlike_34 : decode cX12_areAlike 34 = .ok (.iconst 0, 1) := by decide +kernel
theorem dX12_areAlike_35 : decode cX12_areAlike 35 = .ok (.istore 5, 2) := by decide +kernel
theorem dX12_areAlike_37 : decode cX12_areAlike 37 = .ok (.iload 5, 2) := by decide +kernel
theorem dX12_areAlike_39 : decode cX12_areAlike 39 = .ok (.iload_n 3, 1) := by decide +kernel
theorem dX12_areAlike_40 : decode cX12_areAlike 40 = .ok (.if_icmp .ge 107, 3) := by decide +kernel
theorem dX12_areAlike_43 : decode cX12_areAlike 43 = .ok (.bipush 30, 2) := by decide +kernel
theorem dX12_areAlike_45 : decode cX12_areAlike 45 = .ok (.iload_n 1, 1) := by decide +kernel
theorem dX12_areAlike_46 : decode cX12_areAlike 46 = .ok (.imul, 1) := by decide +kernel
theorem dX12_areAlike_47 : decode cX12_areAlike 47 = .ok (.iload 5, 2) := by decide +kernel
theorem dX12_areAlike_49 : decode cX12_areAlike 49 = .ok (.iadd, 1) := by decide +kernel
theorem dX12_areAlike_50 : decode cX12_areAlike 50 = .ok (.istore 6, 2) := by decide +kernel
theorem dX12_areAlike_52 : decode cX12_areAlike 52 = .ok (.bipush 30, 2) := by decide +kernel
theorem dX12_areAlike_54 : decode cX12_areAlike 54 = .ok (.iload_n 2, 1) := by decide +kernel
theorem dX12_areAlike_55 : decode cX12_areAlike 55 = .ok (.imul, 1) := by decide +kernel
theorem dX12_areAlike_56 : decode cX12_areAlike 56 = .ok (.iload 5, 2) := by decide +kernel
theorem dX12_areAlike_58 : decode cX12_areAlike 58 = .ok (.iadd, 1) := by decide +kernel
theorem dX12_areAlike_59 : decode cX12_areAlike 59 = .ok (.istore 7, 2) := by decide +kernel
theorem dX12_areAlike_61 : decode cX12_areAlike 61 = .ok (.iload 4, 2) := by decide +kernel
theorem dX12_areAlike_63 : decode cX12_areAlike 63 = .ok (.ifCond .eq 75, 3) := by decide +kernel
theorem dX12_areAlike_66 : decode cX12_areAlike 66 = .ok (.aload_n 0, 1) := by decide +kernel
theorem dX12_areAlike_67 : decode cX12_areAlike 67 = .ok (.getfield 48, 3) := by decide +kernel
theorem dX12_areAlike_70 : decode cX12_areAlike 70 = .ok (.iload 6, 2) := by decide +kernel
theorem dX12_areAlike_72 : decode cX12_areAlike 72 = .ok (.iaload, 1) := by decide +kernel
theorem dX12_areAlike_73 : decode cX12_areAlike 73 = .ok (.aload_n 0, 1) := by decide +kernel
theorem dX12_areAlike_74 : decode cX12_areAlike 74 = .ok (.getfield 48, 3) := by decide +kernel
theorem dX12_areAlike_77 : decode cX12_areAlike 77 = .ok (.iload 7, 2) := by decide +kernel
theorem dX12_areAlike_79 : decode cX12_areAlike 79 = .ok (.iaload, 1) := by decide +kernel
theorem dX12_areAlike_80 : decode cX12_areAlike 80 = .ok (.if_icmp .ne 58, 3) := by decide +kernel
theorem dX12_areAlike_83 : decode cX12_areAlike 83 = .ok (.aload_n 0, 1) := by decide +kernel
theorem dX12_areAlike_84 : decode cX12_areAlike 84 = .ok (.getfield 51, 3) := by decide +kernel
theorem dX12_areAlike_87 : decode cX12_areAlike 87 = .ok (.iload 6, 2) := by decide +kernel
theorem dX12_areAlike_89 : decode cX12_areAlike 89 = .ok (.iaload, 1) := by decide +kernel
theorem dX12_areAlike_90 : decode cX12_areAlike 90 = .ok (.aload_n 0, 1) := by decide +kernel
theorem dX12_areAlike_91 : decode cX12_areAlike 91 = .ok (.getfield 51, 3) := by decide +kernel
theorem dX12_areAlike_94 : decode cX12_areAlike 94 = .ok (.iload 7, 2) := by decide +kernel
theorem dX12_areAlike_96 : decode cX12_areAlike 96 = .ok (.iaload, 1) := by decide +kernel
theorem dX12_areAlike_97 : decode cX12_areAlike 97 = .ok (.if_icmp .ne 41, 3) := by decide +kernel
theorem dX12_areAlike_100 : decode cX12_areAlike 100 = .ok (.aload_n 0, 1) := by decide +kernel
theorem dX12_areAlike_101 : decode cX12_areAlike 101 = .ok (.getfield 54, 3) := by decide +kernel
theorem dX12_areAlike_104 : decode cX12_areAlike 104 = .ok (.iload 6, 2) := by decide +kernel
theorem dX12_areAlike_106 : decode cX12_areAlike 106 = .ok (.iaload, 1) := by decide +kernel
theorem dX12_areAlike_107 : decode cX12_areAlike 107 = .ok (.aload_n 0, 1) := by decide +kernel
theorem dX12_areAlike_108 : decode cX12_areAlike 108 = .ok (.getfield 54, 3) := by decide +kernel
theorem dX12_areAlike_111 : decode cX12_areAlike 111 = .ok (.iload 7, 2) := by decide +kernel
theorem dX12_areAlike_113 : decode cX12_areAlike 113 = .ok (.iaload, 1) := by decide +kernel
theorem dX12_areAlike_114 : decode cX12_areAlike 114 = .ok (.if_icmp .ne 24, 3) := by decide +kernel
theorem dX12_areAlike_117 : decode cX12_areAlike 117 = .ok (.aload_n 0, 1) := by decide +kernel
theorem dX12_areAlike_118 : decode cX12_areAlike 118 = .ok (.getfield 57, 3) := by decide +kernel
theorem dX12_areAlike_121 : decode cX12_areAlike 121 = .ok (.iload 6, 2) := by decide +kernel
theorem dX12_areAlike_123 : decode cX12_areAlike 123 = .ok (.iaload, 1) := by decide +kernel
theorem dX12_areAlike_124 : decode cX12_areAlike 124 = .ok (.aload_n 0, 1) := by decide +kernel
theorem dX12_areAlike_125 : decode cX12_areAlike 125 = .ok (.getfield 57, 3) := by decide +kernel
theorem dX12_areAlike_128 : decode cX12_areAlike 128 = .ok (.iload 7, 2) := by decide +kernel
theorem dX12_areAlike_130 : decode cX12_areAlike 130 = .ok (.iaload, 1) := by decide +kernel
theorem dX12_areAlike_131 : decode cX12_areAlike 131 = .ok (.if_icmp .ne 7, 3) := by decide +kernel
theorem dX12_areAlike_134 : decode cX12_areAlike 134 = .ok (.iconst 1, 1) := by decide +kernel
theorem dX12_areAlike_135 : decode cX12_areAlike 135 = .ok (.goto 4, 3) := by decide +kernel
theorem dX12_areAlike_138 : decode cX12_areAlike 138 = .ok (.iconst 0, 1) := by decide +kernel
theorem dX12_areAlike_139 : decode cX12_areAlike 139 = .ok (.istore 4, 2) := by decide +kernel
theorem dX12_areAlike_141 : decode cX12_areAlike 141 = .ok (.iinc 5 1, 3) := by decide +kernel
theorem dX12_areAlike_144 : decode cX12_areAlike 144 = .ok (.goto (-107), 3) := by decide +kernel
theorem dX12_areAlike_147 : decode cX12_areAlike 147 = .ok (.iconst 0, 1) := by decide +kernel
theorem dX12_areAlike_148 : decode cX12_areAlike 148 = .ok (.istore 5, 2) := by decide +kernel
theorem dX12_areAlike_150 : decode cX12_areAlike 150 = .ok (.iload 5, 2) := by decide +kernel
theorem dX12_areAlike_152 : decode cX12_areAlike 152 = .ok (.iconst 4, 1) := by decide +kernel
theorem dX12_areAlike_153 : decode cX12_areAlike 153 = .ok (.if_icmp .ge 66, 3) := by decide +kernel
theorem dX12_areAlike_156 : decode cX12_areAlike 156 = .ok (.aload_n 0, 1) := by decide +kernel
theorem dX12_areAlike_157 : decode cX12_areAlike 157 = .ok (.getfield 96, 3) := by decide +kernel
theorem dX12_areAlike_160 : decode cX12_areAlike 160 = .ok (.iconst 4, 1) := by decide +kernel
theorem dX12_areAlike_161 : decode cX12_areAlike 161 = .ok (.iload_n 1, 1) := by decide +kernel
theorem dX12_areAlike_162 : decode cX12_areAlike 162 = .ok (.imul, 1) := by decide +kernel
theorem dX12_areAlike_163 : decode cX12_areAlike 163 = .ok (.iload 5, 2) := by decide +kernel
theorem dX12_areAlike_165 : decode cX12_areAlike 165 = .ok (.iadd, 1) := by decide +kernel
theorem dX12_areAlike_166 : decode cX12_areAlike 166 = .ok (.iaload, 1) := by decide +kernel
theorem dX12_areAlike_167 : decode cX12_areAlike 167 = .ok (.istore 6, 2) := by decide +kernel
theorem dX12_areAlike_169 : decode cX12_areAlike 169 = .ok (.aload_n 0, 1) := by decide +kernel
theorem dX12_areAlike_170 : decode cX12_areAlike 170 = .ok (.getfield 96, 3) := by decide +kernel
theorem dX12_areAlike_173 : decode cX12_areAlike 173 = .ok (.iconst 4, 1) := by decide +kernel
theorem dX12_areAlike_174 : decode cX12_areAlike 174 = .ok (.iload_n 2, 1) := by decide +kernel
theorem dX12_areAlike_175 : decode cX12_areAlike 175 = .ok (.imul, 1) := by decide +kernel
theorem dX12_areAlike_176 : decode cX12_areAlike 176 = .ok (.iload 5, 2) := by decide +kernel
theorem dX12_areAlike_178 : decode cX12_areAlike 178 = .ok (.iadd, 1) := by decide +kernel
theorem dX12_areAlike_179 : decode cX12_areAlike 179 = .ok (.iaload, 1) := by decide +kernel
theorem dX12_areAlike_180 : decode cX12_areAlike 180 = .ok (.istore 7, 2) := by decide +kernel
theorem dX12_areAlike_182 : decode cX12_areAlike 182 = .ok (.iload 4, 2) := by decide +kernel
theorem dX12_areAlike_184 : decode cX12_areAlike 184 = .ok (.ifCond .eq 26, 3) := by decide +kernel
theorem dX12_areAlike_187 : decode cX12_areAlike 187 = .ok (.iload 6, 2) := by decide +kernel
theorem dX12_areAlike_189 : decode cX12_areAlike 189 = .ok (.iconst (-1), 1) := by decide +kernel
theorem dX12_areAlike_190 : decode cX12_areAlike 190 = .ok (.if_icmp .eq 16, 3) := by decide +kernel
theorem dX12_areAlike_193 : decode cX12_areAlike 193 = .ok (.iload 7, 2) := by decide +kernel
theorem dX12_areAlike_195 : decode cX12_areAlike 195 = .ok (.iconst (-1), 1) := by decide +kernel
theorem dX12_areAlike_196 : decode cX12_areAlike 196 = .ok (.if_icmp .eq 10, 3) := by decide +kernel
theorem dX12_areAlike_199 : decode cX12_areAlike 199 = .ok (.iload 6, 2) := by decide +kernel
theorem dX12_areAlike_201 : decode cX12_areAlike 201 = .ok (.iload 7, 2) := by decide +kernel
theorem dX12_areAlike_203 : decode cX12_areAlike 203 = .ok (.if_icmp .ne 7, 3) := by decide +kernel
theorem dX12_areAlike_206 : decode cX12_areAlike 206 = .ok (.iconst 1, 1) := by decide +kernel
theorem dX12_areAlike_207 : decode cX12_areAlike 207 = .ok (.goto 4, 3) := by decide +kernel
theorem dX12_areAlike_210 : decode cX12_areAlike 210 = .ok (.iconst 0, 1) := by decide +kernel
theorem dX12_areAlike_211 : decode cX12_areAlike 211 = .ok (.istore 4, 2) := by decide +kernel
theorem dX12_areAlike_213 : decode cX12_areAlike 213 = .ok (.iinc 5 1, 3) := by decide +kernel
theorem dX12_areAlike_216 : decode cX12_areAlike 216 = .ok (.goto (-66), 3) := by decide +kernel
theorem dX12_areAlike_219 : decode cX12_areAlike 219 = .ok (.iload 4, 2) := by decide +kernel
theorem dX12_areAlike_221 : decode cX12_areAlike 221 = .ok (.ireturn, 1) := by decide +kernel
theorem dX12_isAgreed_0 : decode cX12_isAgreed 0 = .ok (.aload_n 0, 1) := by decide +kernel
theorem dX12_isAgreed_1 : decode cX12_isAgreed 1 = .ok (.iconst 0, 1) := by decide +kernel
theorem dX12_isAgreed_2 : decode cX12_isAgreed 2 = .ok (.putfield 151, 3) := by decide +kernel
theorem dX12_isAgreed_5 : decode cX12_isAgreed 5 = .ok (.iconst 1, 1) := by decide +kernel
theorem dX12_isAgreed_6 : decode cX12_isAgreed 6 = .ok (.istore_n 1, 1) := by decide +kernel
theorem dX12_isAgreed_7 : decode cX12_isAgreed 7 = .ok (.iconst 0, 1) := by decide +kernel
theorem dX12_isAgreed_8 : decode cX12_isAgreed 8 = .ok (.istore_n 2, 1) := by decide +kernel
theorem dX12_isAgreed_9 : decode cX12_isAgreed 9 = .ok (.iload_n 2, 1) := by decide +kernel
theorem dX12_isAgreed_10 : decode cX12_isAgreed 10 = .ok (.aload_n 0, 1) := by decide +kernel
theorem dX12_isAgreed_11 : decode cX12_isAgreed 11 = .ok (.getfield 7, 3) := by decide +kernel
theorem dX12_isAgreed_14 : decode cX12_isAgreed 14 = .ok (.if_icmp .ge 41, 3) := by decide +kernel
theorem dX12_isAgreed_17 : decode cX12_isAgreed 17 = .ok (.iconst 0, 1) := by decide +kernel
theorem dX12_isAgreed_18 : decode cX12_isAgreed 18 = .ok (.istore_n 3, 1) := by decide +kernel
theorem dX12_isAgreed_19 : decode cX12_isAgreed 19 = .ok (.iload_n 3, 1) := by decide +kernel
theorem dX12_isAgreed_20 : decode cX12_isAgreed 20 = .ok (.iload_n 2, 1) := by decide +kernel
theorem dX12_isAgreed_21 : decode cX12_isAgreed 21 = .ok (.if_icmp .ge 28, 3) := by decide +kernel
theorem dX12_isAgreed_24 : decode cX12_isAgreed 24 = .ok (.iload_n 1, 1) := by decide +kernel
theorem dX12_isAgreed_25 : decode cX12_isAgreed 25 = .ok (.ifCond .eq 16, 3) := by decide +kernel
theorem dX12_isAgreed_28 : decode cX12_isAgreed 28 = .ok (.aload_n 0, 1) := by decide +kernel
theorem dX12_isAgreed_29 : decode cX12_isAgreed 29 = .ok (.iload_n 2, 1) := by decide +kernel
theorem dX12_isAgreed_30 : decode cX12_isAgreed 30 = .ok (.iload_n 3, 1) := by decide +kernel
theorem dX12_isAgreed_31 : decode cX12_isAgreed 31 = .ok (.invokevirtual 275, 3) := by decide +kernel
theorem dX12_isAgreed_34 : decode cX12_isAgreed 34 = .ok (.ifCond .eq 7, 3) := by decide +kernel
theorem dX12_isAgreed_37 : decode cX12_isAgreed 37 = .ok (.iconst 1, 1) := by decide +kernel
theorem dX12_isAgreed_38 : decode cX12_isAgreed 38 = .ok (.goto 4, 3) := by decide +kernel
theorem dX12_isAgreed_41 : decode cX12_isAgreed 41 = .ok (.iconst 0, 1) := by decide +kernel
theorem dX12_isAgreed_42 : decode cX12_isAgreed 42 = .ok (.istore_n 1, 1) := by decide +kernel
theorem dX12_isAgreed_43 : decode cX12_isAgreed 43 = .ok (.iinc 3 1, 3) := by decide +kernel
theorem dX12_isAgreed_46 : decode cX12_isAgreed 46 = .ok (.goto (-27), 3) := by decide +kernel
theorem dX12_isAgreed_49 : decode cX12_isAgreed 49 = .ok (.iinc 2 1, 3) := by decide +kernel
theorem dX12_isAgreed_52 : decode cX12_isAgreed 52 = .ok (.goto (-43), 3) := by decide +kernel
theorem dX12_isAgreed_55 : decode cX12_isAgreed 55 = .ok (.iload_n 1, 1) := by decide +kernel
theorem dX12_isAgreed_56 : decode cX12_isAgreed 56 = .ok (.ireturn, 1) := by decide +kernel
theorem dJ6_bitCount_0f7a4_0 : decode cJ6_bitCount_0f7a4 0 = .ok (.iload_n 0, 1) := by decide +kernel
theorem dJ6_bitCount_0f7a4_1 : decode cJ6_bitCount_0f7a4 1 = .ok (.iload_n 0, 1) := by decide +kernel
theorem dJ6_bitCount_0f7a4_2 : decode cJ6_bitCount_0f7a4 2 = .ok (.iconst 1, 1) := by decide +kernel
theorem dJ6_bitCount_0f7a4_3 : decode cJ6_bitCount_0f7a4 3 = .ok (.iushr, 1) := by decide +kernel
theorem dJ6_bitCount_0f7a4_4 : decode cJ6_bitCount_0f7a4 4 = .ok (.ldc_w 265, 3) := by decide +kernel
theorem dJ6_bitCount_0f7a4_7 : decode cJ6_bitCount_0f7a4 7 = .ok (.iand, 1) := by decide +kernel
theorem dJ6_bitCount_0f7a4_8 : decode cJ6_bitCount_0f7a4 8 = .ok (.isub, 1) := by decide +kernel
theorem dJ6_bitCount_0f7a4_9 : decode cJ6_bitCount_0f7a4 9 = .ok (.istore_n 0, 1) := by decide +kernel
theorem dJ6_bitCount_0f7a4_10 : decode cJ6_bitCount_0f7a4 10 = .ok (.iload_n 0, 1) := by decide +kernel
theorem dJ6_bitCount_0f7a4_11 : decode cJ6_bitCount_0f7a4 11 = .ok (.ldc_w 266, 3) := by decide +kernel
theorem dJ6_bitCount_0f7a4_14 : decode cJ6_bitCount_0f7a4 14 = .ok (.iand, 1) := by decide +kernel
theorem dJ6_bitCount_0f7a4_15 : decode cJ6_bitCount_0f7a4 15 = .ok (.iload_n 0, 1) := by decide +kernel
theorem dJ6_bitCount_0f7a4_16 : decode cJ6_bitCount_0f7a4 16 = .ok (.iconst 2, 1) := by decide +kernel
theorem dJ6_bitCount_0f7a4_17 : decode cJ6_bitCount_0f7a4 17 = .ok (.iushr, 1) := by decide +kernel
theorem dJ6_bitCount_0f7a4_18 : decode cJ6_bitCount_0f7a4 18 = .ok (.ldc_w 266, 3) := by decide +kernel
theorem dJ6_bitCount_0f7a4_21 : decode cJ6_bitCount_0f7a4 21 = .ok (.iand, 1) := by decide +kernel
theorem dJ6_bitCount_0f7a4_22 : decode cJ6_bitCount_0f7a4 22 = .ok (.iadd, 1) := by decide +kernel
theorem dJ6_bitCount_0f7a4_23 : decode cJ6_bitCount_0f7a4 23 = .ok (.istore_n 0, 1) := by decide +kernel
theorem dJ6_bitCount_0f7a4_24 : decode cJ6_bitCount_0f7a4 24 = .ok (.iload_n 0, 1) := by decide +kernel
theorem dJ6_bitCount_0f7a4_25 : decode cJ6_bitCount_0f7a4 25 = .ok (.iload_n 0, 1) := by decide +kernel
theorem dJ6_bitCount_0f7a4_26 : decode cJ6_bitCount_0f7a4 26 = .ok (.iconst 4, 1) := by decide +kernel
theorem dJ6_bitCount_0f7a4_27 : decode cJ6_bitCount_0f7a4 27 = .ok (.iushr, 1) := by decide +kernel
theorem dJ6_bitCount_0f7a4_28 : decode cJ6_bitCount_0f7a4 28 = .ok (.iadd, 1) := by decide +kernel
theorem dJ6_bitCount_0f7a4_29 : decode cJ6_bitCount_0f7a4 29 = .ok (.ldc_w 267, 3) := by decide +kernel
theorem dJ6_bitCount_0f7a4_32 : decode cJ6_bitCount_0f7a4 32 = .ok (.iand, 1) := by decide +kernel
theorem dJ6_bitCount_0f7a4_33 : decode cJ6_bitCount_0f7a4 33 = .ok (.istore_n 0, 1) := by decide +kernel
theorem dJ6_bitCount_0f7a4_34 : decode cJ6_bitCount_0f7a4 34 = .ok (.iload_n 0, 1) := by decide +kernel
theorem dJ6_bitCount_0f7a4_35 : decode cJ6_bitCount_0f7a4 35 = .ok (.iload_n 0, 1) := by decide +kernel
theorem dJ6_bitCount_0f7a4_36 : decode cJ6_bitCount_0f7a4 36 = .ok (.bipush 8, 2) := by decide +kernel
theorem dJ6_bitCount_0f7a4_38 : decode cJ6_bitCount_0f7a4 38 = .ok (.iushr, 1) := by decide +kernel
theorem dJ6_bitCount_0f7a4_39 : decode cJ6_bitCount_0f7a4 39 = .ok (.iadd, 1) := by decide +kernel
theorem dJ6_bitCount_0f7a4_40 : decode cJ6_bitCount_0f7a4 40 = .ok (.istore_n 0, 1) := by decide +kernel
theorem dJ6_bitCount_0f7a4_41 : decode cJ6_bitCount_0f7a4 41 = .ok (.iload_n 0, 1) := by decide +kernel
theorem dJ6_bitCount_0f7a4_42 : decode cJ6_bitCount_0f7a4 42 = .ok (.iload_n 0, 1) := by decide +kernel
theorem dJ6_bitCount_0f7a4_43 : decode cJ6_bitCount_0f7a4 43 = .ok (.bipush 16, 2) := by decide +kernel
theorem dJ6_bitCount_0f7a4_45 : decode cJ6_bitCount_0f7a4 45 = .ok (.iushr, 1) := by decide +kernel
theorem dJ6_bitCount_0f7a4_46 : decode cJ6_bitCount_0f7a4 46 = .ok (.iadd, 1) := by decide +kernel
theorem dJ6_bitCount_0f7a4_47 : decode cJ6_bitCount_0f7a4 47 = .ok (.istore_n 0, 1) := by decide +kernel
theorem dJ6_bitCount_0f7a4_48 : decode cJ6_bitCount_0f7a4 48 = .ok (.iload_n 0, 1) := by decide +kernel
theorem dJ6_bitCount_0f7a4_49 : decode cJ6_bitCount_0f7a4 49 = .ok (.bipush 63, 2) := by decide +kernel
theorem dJ6_bitCount_0f7a4_51 : decode cJ6_bitCount_0f7a4 51 = .ok (.iand, 1) := by decide +kernel
theorem dJ6_bitCount_0f7a4_52 : decode cJ6_bitCount_0f7a4 52 = .ok (.ireturn, 1) := by decide +kernel
theorem dJ9_max_7cf53_0 : decode cJ9_max_7cf53 0 = .ok (.iload_n 0, 1) := by decide +kernel
theorem dJ9_max_7cf53_1 : decode cJ9_max_7cf53 1 = .ok (.iload_n 1, 1) := by decide +kernel
theorem dJ9_max_7cf53_2 : decode cJ9_max_7cf53 2 = .ok (.if_icmp .lt 7, 3) := by decide +kernel
theorem dJ9_max_7cf53_5 : decode cJ9_max_7cf53 5 = .ok (.iload_n 0, 1) := by decide +kernel
theorem dJ9_max_7cf53_6 : decode cJ9_max_7cf53 6 = .ok (.goto 4, 3) := by decide +kernel
theorem dJ9_max_7cf53_9 : decode cJ9_max_7cf53 9 = .ok (.iload_n 1, 1) := by decide +kernel
theorem dJ9_max_7cf53_10 : decode cJ9_max_7cf53 10 = .ok (.ireturn, 1) := by decide +kernel
theorem dJ9_min_7cf53_0 : decode cJ9_min_7cf53 0 = .ok (.iload_n 0, 1) := by decide +kernel
theorem dJ9_min_7cf53_1 : decode cJ9_min_7cf53 1 = .ok (.iload_n 1, 1) := by decide +kernel
theorem dJ9_min_7cf53_2 : decode cJ9_min_7cf53 2 = .ok (.if_icmp .gt 7, 3) := by decide +kernel
theorem dJ9_min_7cf53_5 : decode cJ9_min_7cf53 5 = .ok (.iload_n 0, 1) := by decide +kernel
theorem dJ9_min_7cf53_6 : decode cJ9_min_7cf53 6 = .ok (.goto 4, 3) := by decide +kernel
theorem dJ9_min_7cf53_9 : decode cJ9_min_7cf53 9 = .ok (.iload_n 1, 1) := by decide +kernel
theorem dJ9_min_7cf53_10 : decode cJ9_min_7cf53 10 = .ok (.ireturn, 1) := by decide +kernel
theorem dL_begin_0 : decode cL_begin 0 = .ok (.aload_n 2, 1) := by decide +kernel
theorem dL_begin_1 : decode cL_begin 1 = .ok (.iconst 0, 1) := by decide +kernel
theorem dL_begin_2 : decode cL_begin 2 = .ok (.aload_n 0, 1) := by decide +kernel
theorem dL_begin_3 : decode cL_begin 3 = .ok (.iload_n 1, 1) := by decide +kernel
theorem dL_begin_4 : decode cL_begin 4 = .ok (.invokevirtual 7, 3) := by decide +kernel
theorem dL_begin_7 : decode cL_begin 7 = .ok (.i2l, 1) := by decide +kernel
theorem dL_begin_8 : decode cL_begin 8 = .ok (.lastore, 1) := by decide +kernel
theorem dL_begin_9 : decode cL_begin 9 = .ok (.goto 6, 3) := by decide +kernel
theorem dL_begin_12 : decode cL_begin 12 = .ok (.astore_n 3, 1) := by decide +kernel
theorem dL_begin_13 : decode cL_begin 13 = .ok (.iconst 1, 1) := by decide +kernel
theorem dL_begin_14 : decode cL_begin 14 = .ok (.ireturn, 1) := by decide +kernel
theorem dL_begin_15 : decode cL_begin 15 = .ok (.iconst 0, 1) := by decide +kernel
theorem dL_begin_16 : decode cL_begin 16 = .ok (.ireturn, 1) := by decide +kernel
theorem dL_toggle_0 : decode cL_toggle 0 = .ok (.aload_n 2, 1) := by decide +kernel
theorem dL_toggle_1 : decode cL_toggle 1 = .ok (.iconst 0, 1) := by decide +kernel
theorem dL_toggle_2 : decode cL_toggle 2 = .ok (.aload_n 0, 1) := by decide +kernel
theorem dL_toggle_3 : decode cL_toggle 3 = .ok (.iload_n 1, 1) := by decide +kernel
theorem dL_toggle_4 : decode cL_toggle 4 = .ok (.invokevirtual 15, 3) := by decide +kernel
theorem dL_toggle_7 : decode cL_toggle 7 = .ok (.ifCond .eq 7, 3) := by decide +kernel
theorem dL_toggle_10 : decode cL_toggle 10 = .ok (.lconst 1, 1) := by decide +kernel
theorem dL_toggle_11 : decode cL_toggle 11 = .ok (.goto 4, 3) := by decide +kernel
theorem dL_toggle_14 : decode cL_toggle 14 = .ok (.lconst 0, 1) := by decide +kernel
theorem dL_toggle_15 : decode cL_toggle 15 = .ok (.lastore, 1) := by decide +kernel
theorem dL_toggle_16 : decode cL_toggle 16 = .ok (.goto 6, 3) := by decide +kernel
theorem dL_toggle_19 : decode cL_toggle 19 = .ok (.astore_n 3, 1) := by decide +kernel
theorem dL_toggle_20 : decode cL_toggle 20 = .ok (.iconst 1, 1) := by decide +kernel
theorem dL_toggle_21 : decode cL_toggle 21 = .ok (.ireturn, 1) := by decide +kernel
theorem dL_toggle_22 : decode cL_toggle 22 = .ok (.iconst 0, 1) := by decide +kernel
theorem dL_toggle_23 : decode cL_toggle 23 = .ok (.ireturn, 1) := by decide +kernel
theorem dL_cut_0 : decode cL_cut 0 = .ok (.aload_n 3, 1) := by decide +kernel
theorem dL_cut_1 : decode cL_cut 1 = .ok (.iconst 0, 1) := by decide +kernel
theorem dL_cut_2 : decode cL_cut 2 = .ok (.aload_n 0, 1) := by decide +kernel
theorem dL_cut_3 : decode cL_cut 3 = .ok (.iload_n 1, 1) := by decide +kernel
theorem dL_cut_4 : decode cL_cut 4 = .ok (.iload_n 2, 1) := by decide +kernel
theorem dL_cut_5 : decode cL_cut 5 = .ok (.invokevirtual 21, 3) := by decide +kernel
theorem dL_cut_8 : decode cL_cut 8 = .ok (.ifCond .eq 7, 3) := by decide +kernel
theorem dL_cut_11 : decode cL_cut 11 = .ok (.lconst 1, 1) := by decide +kernel
theorem dL_cut_12 : decode cL_cut 12 = .ok (.goto 4, 3) := by decide +kernel
theorem dL_cut_15 : decode cL_cut 15 = .ok (.lconst 0, 1) := by decide +kernel
theorem dL_cut_16 : decode cL_cut 16 = .ok (.lastore, 1) := by decide +kernel
theorem dL_cut_17 : decode cL_cut 17 = .ok (.goto 11, 3) := by decide +kernel
theorem dL_cut_20 : decode cL_cut 20 = .ok (.astore 4, 2) := by decide +kernel
theorem dL_cut_22 : decode cL_cut 22 = .ok (.iconst 1, 1) := by decide +kernel
theorem dL_cut_23 : decode cL_cut 23 = .ok (.ireturn, 1) := by decide +kernel
theorem dL_cut_24 : decode cL_cut 24 = .ok (.astore 4, 2) := by decide +kernel
theorem dL_cut_26 : decode cL_cut 26 = .ok (.iconst 2, 1) := by decide +kernel
theorem dL_cut_27 : decode cL_cut 27 = .ok (.ireturn, 1) := by decide +kernel
theorem dL_cut_28 : decode cL_cut 28 = .ok (.iconst 0, 1) := by decide +kernel
theorem dL_cut_29 : decode cL_cut 29 = .ok (.ireturn, 1) := by decide +kernel
theorem dL_rate_0 : decode cL_rate 0 = .ok (.aload_n 3, 1) := by decide +kernel
theorem dL_rate_1 : decode cL_rate 1 = .ok (.iconst 0, 1) := by decide +kernel
theorem dL_rate_2 : decode cL_rate 2 = .ok (.aload_n 0, 1) := by decide +kernel
theorem dL_rate_3 : decode cL_rate 3 = .ok (.iload_n 1, 1) := by decide +kernel
theorem dL_rate_4 : decode cL_rate 4 = .ok (.iload_n 2, 1) := by decide +kernel
theorem dL_rate_5 : decode cL_rate 5 = .ok (.invokevirtual 25, 3) := by decide +kernel
theorem dL_rate_8 : decode cL_rate 8 = .ok (.f2d, 1) := by decide +kernel
theorem dL_rate_9 : decode cL_rate 9 = .ok (.dastore, 1) := by decide +kernel
theorem dL_rate_10 : decode cL_rate 10 = .ok (.goto 11, 3) := by decide +kernel
theorem dL_rate_13 : decode cL_rate 13 = .ok (.astore 4, 2) := by decide +kernel
theorem dL_rate_15 : decode cL_rate 15 = .ok (.iconst 1, 1) := by decide +kernel
theorem dL_rate_16 : decode cL_rate 16 = .ok (.ireturn, 1) := by decide +kernel
theorem dL_rate_17 : decode cL_rate 17 = .ok (.astore 4, 2) := by decide +kernel
theorem dL_rate_19 : decode cL_rate 19 = .ok (.iconst 2, 1) := by decide +kernel
theorem dL_rate_20 : decode cL_rate 20 = .ok (.ireturn, 1) := by decide +kernel
theorem dL_rate_21 : decode cL_rate 21 = .ok (.iconst 0, 1) := by decide +kernel
theorem dL_rate_22 : decode cL_rate 22 = .ok (.ireturn, 1) := by decide +kernel
theorem dL_spans_0 : decode cL_spans 0 = .ok (.aload_n 0, 1) := by decide +kernel
theorem dL_spans_1 : decode cL_spans 1 = .ok (.iload_n 1, 1) := by decide +kernel
theorem dL_spans_2 : decode cL_spans 2 = .ok (.iload_n 2, 1) := by decide +kernel
theorem dL_spans_3 : decode cL_spans 3 = .ok (.invokevirtual 29, 3) := by decide +kernel
theorem dL_spans_6 : decode cL_spans 6 = .ok (.goto 6, 3) := by decide +kernel
theorem dL_spans_9 : decode cL_spans 9 = .ok (.astore_n 3, 1) := by decide +kernel
theorem dL_spans_10 : decode cL_spans 10 = .ok (.iconst 1, 1) := by decide +kernel
theorem dL_spans_11 : decode cL_spans 11 = .ok (.ireturn, 1) := by decide +kernel
theorem dL_spans_12 : decode cL_spans 12 = .ok (.iconst 0, 1) := by decide +kernel
theorem dL_spans_13 : decode cL_spans 13 = .ok (.ireturn, 1) := by decide +kernel
theorem dL_pass_0 : decode cL_pass 0 = .ok (.aload_n 2, 1) := by decide +kernel
theorem dL_pass_1 : decode cL_pass 1 = .ok (.iconst 0, 1) := by decide +kernel
theorem dL_pass_2 : decode cL_pass 2 = .ok (.aload_n 0, 1) := by decide +kernel
theorem dL_pass_3 : decode cL_pass 3 = .ok (.iload_n 1, 1) := by decide +kernel
theorem dL_pass_4 : decode cL_pass 4 = .ok (.invokevirtual 33, 3) := by decide +kernel
theorem dL_pass_7 : decode cL_pass 7 = .ok (.f2d, 1) := by decide +kernel
theorem dL_pass_8 : decode cL_pass 8 = .ok (.dastore, 1) := by decide +kernel
theorem dL_pass_9 : decode cL_pass 9 = .ok (.goto 6, 3) := by decide +kernel
theorem dL_pass_12 : decode cL_pass 12 = .ok (.astore_n 3, 1) := by decide +kernel
theorem dL_pass_13 : decode cL_pass 13 = .ok (.iconst 1, 1) := by decide +kernel
theorem dL_pass_14 : decode cL_pass 14 = .ok (.ireturn, 1) := by decide +kernel
theorem dL_pass_15 : decode cL_pass 15 = .ok (.iconst 0, 1) := by decide +kernel
theorem dL_pass_16 : decode cL_pass 16 = .ok (.ireturn, 1) := by decide +kernel
theorem dL_deliver_0 : decode cL_deliver 0 = .ok (.aload_n 2, 1) := by decide +kernel
theorem dL_deliver_1 : decode cL_deliver 1 = .ok (.iconst 0, 1) := by decide +kernel
theorem dL_deliver_2 : decode cL_deliver 2 = .ok (.aload_n 0, 1) := by decide +kernel
theorem dL_deliver_3 : decode cL_deliver 3 = .ok (.iload_n 1, 1) := by decide +kernel
theorem dL_deliver_4 : decode cL_deliver 4 = .ok (.invokevirtual 37, 3) := by decide +kernel
theorem dL_deliver_7 : decode cL_deliver 7 = .ok (.i2l, 1) := by decide +kernel
theorem dL_deliver_8 : decode cL_deliver 8 = .ok (.lastore, 1) := by decide +kernel
theorem dL_deliver_9 : decode cL_deliver 9 = .ok (.goto 9, 3) := by decide +kernel
theorem dL_deliver_12 : decode cL_deliver 12 = .ok (.astore_n 3, 1) := by decide +kernel
theorem dL_deliver_13 : decode cL_deliver 13 = .ok (.iconst 1, 1) := by decide +kernel
theorem dL_deliver_14 : decode cL_deliver 14 = .ok (.ireturn, 1) := by decide +kernel
theorem dL_deliver_15 : decode cL_deliver 15 = .ok (.astore_n 3, 1) := by decide +kernel
theorem dL_deliver_16 : decode cL_deliver 16 = .ok (.iconst 2, 1) := by decide +kernel
theorem dL_deliver_17 : decode cL_deliver 17 = .ok (.ireturn, 1) := by decide +kernel
theorem dL_deliver_18 : decode cL_deliver 18 = .ok (.iconst 0, 1) := by decide +kernel
theorem dL_deliver_19 : decode cL_deliver 19 = .ok (.ireturn, 1) := by decide +kernel
theorem dL_lose_0 : decode cL_lose 0 = .ok (.aload_n 2, 1) := by decide +kernel
theorem dL_lose_1 : decode cL_lose 1 = .ok (.iconst 0, 1) := by decide +kernel
theorem dL_lose_2 : decode cL_lose 2 = .ok (.aload_n 0, 1) := by decide +kernel
theorem dL_lose_3 : decode cL_lose 3 = .ok (.iload_n 1, 1) := by decide +kernel
theorem dL_lose_4 : decode cL_lose 4 = .ok (.invokevirtual 42, 3) := by decide +kernel
theorem dL_lose_7 : decode cL_lose 7 = .ok (.i2l, 1) := by decide +kernel
theorem dL_lose_8 : decode cL_lose 8 = .ok (.lastore, 1) := by decide +kernel
theorem dL_lose_9 : decode cL_lose 9 = .ok (.goto 6, 3) := by decide +kernel
theorem dL_lose_12 : decode cL_lose 12 = .ok (.astore_n 3, 1) := by decide +kernel
theorem dL_lose_13 : decode cL_lose 13 = .ok (.iconst 1, 1) := by decide +kernel
theorem dL_lose_14 : decode cL_lose 14 = .ok (.ireturn, 1) := by decide +kernel
theorem dL_lose_15 : decode cL_lose 15 = .ok (.iconst 0, 1) := by decide +kernel
theorem dL_lose_16 : decode cL_lose 16 = .ok (.ireturn, 1) := by decide +kernel
theorem dL_twice_0 : decode cL_twice 0 = .ok (.aload_n 2, 1) := by decide +kernel
theorem dL_twice_1 : decode cL_twice 1 = .ok (.iconst 0, 1) := by decide +kernel
theorem dL_twice_2 : decode cL_twice 2 = .ok (.aload_n 0, 1) := by decide +kernel
theorem dL_twice_3 : decode cL_twice 3 = .ok (.iload_n 1, 1) := by decide +kernel
theorem dL_twice_4 : decode cL_twice 4 = .ok (.invokevirtual 45, 3) := by decide +kernel
theorem dL_twice_7 : decode cL_twice 7 = .ok (.i2l, 1) := by decide +kernel
theorem dL_twice_8 : decode cL_twice 8 = .ok (.lastore, 1) := by decide +kernel
theorem dL_twice_9 : decode cL_twice 9 = .ok (.goto 6, 3) := by decide +kernel
theorem dL_twice_12 : decode cL_twice 12 = .ok (.astore_n 3, 1) := by decide +kernel
theorem dL_twice_13 : decode cL_twice 13 = .ok (.iconst 1, 1) := by decide +kernel
theorem dL_twice_14 : decode cL_twice 14 = .ok (.ireturn, 1) := by decide +kernel
theorem dL_twice_15 : decode cL_twice 15 = .ok (.iconst 0, 1) := by decide +kernel
theorem dL_twice_16 : decode cL_twice 16 = .ok (.ireturn, 1) := by decide +kernel
theorem dL_stand_0 : decode cL_stand 0 = .ok (.aload_n 2, 1) := by decide +kernel
theorem dL_stand_1 : decode cL_stand 1 = .ok (.iconst 0, 1) := by decide +kernel
theorem dL_stand_2 : decode cL_stand 2 = .ok (.aload_n 0, 1) := by decide +kernel
theorem dL_stand_3 : decode cL_stand 3 = .ok (.iload_n 1, 1) := by decide +kernel
theorem dL_stand_4 : decode cL_stand 4 = .ok (.invokevirtual 48, 3) := by decide +kernel
theorem dL_stand_7 : decode cL_stand 7 = .ok (.i2l, 1) := by decide +kernel
theorem dL_stand_8 : decode cL_stand 8 = .ok (.lastore, 1) := by decide +kernel
theorem dL_stand_9 : decode cL_stand 9 = .ok (.goto 9, 3) := by decide +kernel
theorem dL_stand_12 : decode cL_stand 12 = .ok (.astore_n 3, 1) := by decide +kernel
theorem dL_stand_13 : decode cL_stand 13 = .ok (.iconst 1, 1) := by decide +kernel
theorem dL_stand_14 : decode cL_stand 14 = .ok (.ireturn, 1) := by decide +kernel
theorem dL_stand_15 : decode cL_stand 15 = .ok (.astore_n 3, 1) := by decide +kernel
theorem dL_stand_16 : decode cL_stand 16 = .ok (.iconst 2, 1) := by decide +kernel
theorem dL_stand_17 : decode cL_stand 17 = .ok (.ireturn, 1) := by decide +kernel
theorem dL_stand_18 : decode cL_stand 18 = .ok (.iconst 0, 1) := by decide +kernel
theorem dL_stand_19 : decode cL_stand 19 = .ok (.ireturn, 1) := by decide +kernel
theorem dL_beat_0 : decode cL_beat 0 = .ok (.aload_n 2, 1) := by decide +kernel
theorem dL_beat_1 : decode cL_beat 1 = .ok (.iconst 0, 1) := by decide +kernel
theorem dL_beat_2 : decode cL_beat 2 = .ok (.aload_n 0, 1) := by decide +kernel
theorem dL_beat_3 : decode cL_beat 3 = .ok (.iload_n 1, 1) := by decide +kernel
theorem dL_beat_4 : decode cL_beat 4 = .ok (.invokevirtual 51, 3) := by decide +kernel
theorem dL_beat_7 : decode cL_beat 7 = .ok (.i2l, 1) := by decide +kernel
theorem dL_beat_8 : decode cL_beat 8 = .ok (.lastore, 1) := by decide +kernel
theorem dL_beat_9 : decode cL_beat 9 = .ok (.goto 9, 3) := by decide +kernel
theorem dL_beat_12 : decode cL_beat 12 = .ok (.astore_n 3, 1) := by decide +kernel
theorem dL_beat_13 : decode cL_beat 13 = .ok (.iconst 1, 1) := by decide +kernel
theorem dL_beat_14 : decode cL_beat 14 = .ok (.ireturn, 1) := by decide +kernel
theorem dL_beat_15 : decode cL_beat 15 = .ok (.astore_n 3, 1) := by decide +kernel
theorem dL_beat_16 : decode cL_beat 16 = .ok (.iconst 2, 1) := by decide +kernel
theorem dL_beat_17 : decode cL_beat 17 = .ok (.ireturn, 1) := by decide +kernel
theorem dL_beat_18 : decode cL_beat 18 = .ok (.iconst 0, 1) := by decide +kernel
theorem dL_beat_19 : decode cL_beat 19 = .ok (.ireturn, 1) := by decide +kernel
theorem dL_request_0 : decode cL_request 0 = .ok (.aload 5, 2) := by decide +kernel
theorem dL_request_2 : decode cL_request 2 = .ok (.iconst 0, 1) := by decide +kernel
theorem dL_request_3 : decode cL_request 3 = .ok (.aload_n 0, 1) := by decide +kernel
theorem dL_request_4 : decode cL_request 4 = .ok (.iload_n 1, 1) := by decide +kernel
theorem dL_request_5 : decode cL_request 5 = .ok (.iload_n 2, 1) := by decide +kernel
theorem dL_request_6 : decode cL_request 6 = .ok (.iload_n 3, 1) := by decide +kernel
theorem dL_request_7 : decode cL_request 7 = .ok (.iload 4, 2) := by decide +kernel
theorem dL_request_9 : decode cL_request 9 = .ok (.invokevirtual 54, 3) := by decide +kernel
theorem dL_request_12 : decode cL_request 12 = .ok (.i2l, 1) := by decide +kernel
theorem dL_request_13 : decode cL_request 13 = .ok (.lastore, 1) := by decide +kernel
theorem dL_request_14 : decode cL_request 14 = .ok (.goto 15, 3) := by decide +kernel
theorem dL_request_17 : decode cL_request 17 = .ok (.astore 6, 2) := by decide +kernel
theorem dL_request_19 : decode cL_request 19 = .ok (.iconst 1, 1) := by decide +kernel
theorem dL_request_20 : decode cL_request 20 = .ok (.ireturn, 1) := by decide +kernel
theorem dL_request_21 : decode cL_request 21 = .ok (.astore 6, 2) := by decide +kernel
theorem dL_request_23 : decode cL_request 23 = .ok (.iconst 2, 1) := by decide +kernel
theorem dL_request_24 : decode cL_request 24 = .ok (.ireturn, 1) := by decide +kernel
theorem dL_request_25 : decode cL_request 25 = .ok (.astore 6, 2) := by decide +kernel
theorem dL_request_27 : decode cL_request 27 = .ok (.iconst 3, 1) := by decide +kernel
theorem dL_request_28 : decode cL_request 28 = .ok (.ireturn, 1) := by decide +kernel
theorem dL_request_29 : decode cL_request 29 = .ok (.iconst 0, 1) := by decide +kernel
theorem dL_request_30 : decode cL_request 30 = .ok (.ireturn, 1) := by decide +kernel
theorem dL_read_0 : decode cL_read 0 = .ok (.aload_n 2, 1) := by decide +kernel
theorem dL_read_1 : decode cL_read 1 = .ok (.iconst 0, 1) := by decide +kernel
theorem dL_read_2 : decode cL_read 2 = .ok (.aload_n 0, 1) := by decide +kernel
theorem dL_read_3 : decode cL_read 3 = .ok (.iload_n 1, 1) := by decide +kernel
theorem dL_read_4 : decode cL_read 4 = .ok (.invokevirtual 58, 3) := by decide +kernel
theorem dL_read_7 : decode cL_read 7 = .ok (.i2l, 1) := by decide +kernel
theorem dL_read_8 : decode cL_read 8 = .ok (.lastore, 1) := by decide +kernel
theorem dL_read_9 : decode cL_read 9 = .ok (.goto 9, 3) := by decide +kernel
theorem dL_read_12 : decode cL_read 12 = .ok (.astore_n 3, 1) := by decide +kernel
theorem dL_read_13 : decode cL_read 13 = .ok (.iconst 1, 1) := by decide +kernel
theorem dL_read_14 : decode cL_read 14 = .ok (.ireturn, 1) := by decide +kernel
theorem dL_read_15 : decode cL_read 15 = .ok (.astore_n 3, 1) := by decide +kernel
theorem dL_read_16 : decode cL_read 16 = .ok (.iconst 2, 1) := by decide +kernel
theorem dL_read_17 : decode cL_read 17 = .ok (.ireturn, 1) := by decide +kernel
theorem dL_read_18 : decode cL_read 18 = .ok (.iconst 0, 1) := by decide +kernel
theorem dL_read_19 : decode cL_read 19 = .ok (.ireturn, 1) := by decide +kernel
theorem dL_propose_0 : decode cL_propose 0 = .ok (.aload 4, 2) := by decide +kernel
theorem dL_propose_2 : decode cL_propose 2 = .ok (.iconst 0, 1) := by decide +kernel
theorem dL_propose_3 : decode cL_propose 3 = .ok (.aload_n 0, 1) := by decide +kernel
theorem dL_propose_4 : decode cL_propose 4 = .ok (.iload_n 1, 1) := by decide +kernel
theorem dL_propose_5 : decode cL_propose 5 = .ok (.iload_n 2, 1) := by decide +kernel
theorem dL_propose_6 : decode cL_propose 6 = .ok (.iload_n 3, 1) := by decide +kernel
theorem dL_propose_7 : decode cL_propose 7 = .ok (.invokevirtual 61, 3) := by decide +kernel
theorem dL_propose_10 : decode cL_propose 10 = .ok (.i2l, 1) := by decide +kernel
theorem dL_propose_11 : decode cL_propose 11 = .ok (.lastore, 1) := by decide +kernel
theorem dL_propose_12 : decode cL_propose 12 = .ok (.goto 15, 3) := by decide +kernel
theorem dL_propose_15 : decode cL_propose 15 = .ok (.astore 5, 2) := by decide +kernel
theorem dL_propose_17 : decode cL_propose 17 = .ok (.iconst 1, 1) := by decide +kernel
theorem dL_propose_18 : decode cL_propose 18 = .ok (.ireturn, 1) := by decide +kernel
theorem dL_propose_19 : decode cL_propose 19 = .ok (.astore 5, 2) := by decide +kernel
theorem dL_propose_21 : decode cL_propose 21 = .ok (.iconst 2, 1) := by decide +kernel
theorem dL_propose_22 : decode cL_propose 22 = .ok (.ireturn, 1) := by decide +kernel
theorem dL_propose_23 : decode cL_propose 23 = .ok (.astore 5, 2) := by decide +kernel
theorem dL_propose_25 : decode cL_propose 25 = .ok (.iconst 3, 1) := by decide +kernel
theorem dL_propose_26 : decode cL_propose 26 = .ok (.ireturn, 1) := by decide +kernel
theorem dL_propose_27 : decode cL_propose 27 = .ok (.iconst 0, 1) := by decide +kernel
theorem dL_propose_28 : decode cL_propose 28 = .ok (.ireturn, 1) := by decide +kernel
theorem dL_message_0 : decode cL_message 0 = .ok (.aload_n 3, 1) := by decide +kernel
theorem dL_message_1 : decode cL_message 1 = .ok (.iconst 0, 1) := by decide +kernel
theorem dL_message_2 : decode cL_message 2 = .ok (.aload_n 0, 1) := by decide +kernel
theorem dL_message_3 : decode cL_message 3 = .ok (.iload_n 1, 1) := by decide +kernel
theorem dL_message_4 : decode cL_message 4 = .ok (.iload_n 2, 1) := by decide +kernel
theorem dL_message_5 : decode cL_message 5 = .ok (.invokevirtual 65, 3) := by decide +kernel
theorem dL_message_8 : decode cL_message 8 = .ok (.i2l, 1) := by decide +kernel
theorem dL_message_9 : decode cL_message 9 = .ok (.lastore, 1) := by decide +kernel
theorem dL_message_10 : decode cL_message 10 = .ok (.goto 11, 3) := by decide +kernel
theorem dL_message_13 : decode cL_message 13 = .ok (.astore 4, 2) := by decide +kernel
theorem dL_message_15 : decode cL_message 15 = .ok (.iconst 1, 1) := by decide +kernel
theorem dL_message_16 : decode cL_message 16 = .ok (.ireturn, 1) := by decide +kernel
theorem dL_message_17 : decode cL_message 17 = .ok (.astore 4, 2) := by decide +kernel
theorem dL_message_19 : decode cL_message 19 = .ok (.iconst 2, 1) := by decide +kernel
theorem dL_message_20 : decode cL_message 20 = .ok (.ireturn, 1) := by decide +kernel
theorem dL_message_21 : decode cL_message 21 = .ok (.iconst 0, 1) := by decide +kernel
theorem dL_message_22 : decode cL_message 22 = .ok (.ireturn, 1) := by decide +kernel
theorem dL_of_0 : decode cL_of 0 = .ok (.aload_n 3, 1) := by decide +kernel
theorem dL_of_1 : decode cL_of 1 = .ok (.iconst 0, 1) := by decide +kernel
theorem dL_of_2 : decode cL_of 2 = .ok (.aload_n 0, 1) := by decide +kernel
theorem dL_of_3 : decode cL_of 3 = .ok (.iload_n 1, 1) := by decide +kernel
theorem dL_of_4 : decode cL_of 4 = .ok (.iload_n 2, 1) := by decide +kernel
theorem dL_of_5 : decode cL_of 5 = .ok (.invokevirtual 69, 3) := by decide +kernel
theorem dL_of_8 : decode cL_of 8 = .ok (.i2l, 1) := by decide +kernel
theorem dL_of_9 : decode cL_of 9 = .ok (.lastore, 1) := by decide +kernel
theorem dL_of_10 : decode cL_of 10 = .ok (.goto 11, 3) := by decide +kernel
theorem dL_of_13 : decode cL_of 13 = .ok (.astore 4, 2) := by decide +kernel
theorem dL_of_15 : decode cL_of 15 = .ok (.iconst 1, 1) := by decide +kernel
theorem dL_of_16 : decode cL_of 16 = .ok (.ireturn, 1) := by decide +kernel
theorem dL_of_17 : decode cL_of 17 = .ok (.astore 4, 2) := by decide +kernel
theorem dL_of_19 : decode cL_of 19 = .ok (.iconst 2, 1) := by decide +kernel
theorem dL_of_20 : decode cL_of 20 = .ok (.ireturn, 1) := by decide +kernel
theorem dL_of_21 : decode cL_of 21 = .ok (.iconst 0, 1) := by decide +kernel
theorem dL_of_22 : decode cL_of 22 = .ok (.ireturn, 1) := by decide +kernel
theorem dL_entry_0 : decode cL_entry 0 = .ok (.aload 4, 2) := by decide +kernel
theorem dL_entry_2 : decode cL_entry 2 = .ok (.iconst 0, 1) := by decide +kernel
theorem dL_entry_3 : decode cL_entry 3 = .ok (.aload_n 0, 1) := by decide +kernel
theorem dL_entry_4 : decode cL_entry 4 = .ok (.iload_n 1, 1) := by decide +kernel
theorem dL_entry_5 : decode cL_entry 5 = .ok (.iload_n 2, 1) := by decide +kernel
theorem dL_entry_6 : decode cL_entry 6 = .ok (.iload_n 3, 1) := by decide +kernel
theorem dL_entry_7 : decode cL_entry 7 = .ok (.invokevirtual 72, 3) := by decide +kernel
theorem dL_entry_10 : decode cL_entry 10 = .ok (.i2l, 1) := by decide +kernel
theorem dL_entry_11 : decode cL_entry 11 = .ok (.lastore, 1) := by decide +kernel
theorem dL_entry_12 : decode cL_entry 12 = .ok (.goto 11, 3) := by decide +kernel
theorem dL_entry_15 : decode cL_entry 15 = .ok (.astore 5, 2) := by decide +kernel
theorem dL_entry_17 : decode cL_entry 17 = .ok (.iconst 1, 1) := by decide +kernel
theorem dL_entry_18 : decode cL_entry 18 = .ok (.ireturn, 1) := by decide +kernel
theorem dL_entry_19 : decode cL_entry 19 = .ok (.astore 5, 2) := by decide +kernel
theorem dL_entry_21 : decode cL_entry 21 = .ok (.iconst 2, 1) := by decide +kernel
theorem dL_entry_22 : decode cL_entry 22 = .ok (.ireturn, 1) := by decide +kernel
theorem dL_entry_23 : decode cL_entry 23 = .ok (.iconst 0, 1) := by decide +kernel
theorem dL_entry_24 : decode cL_entry 24 = .ok (.ireturn, 1) := by decide +kernel
theorem dL_clock_0 : decode cL_clock 0 = .ok (.aload_n 2, 1) := by decide +kernel
theorem dL_clock_1 : decode cL_clock 1 = .ok (.iconst 0, 1) := by decide +kernel
theorem dL_clock_2 : decode cL_clock 2 = .ok (.aload_n 0, 1) := by decide +kernel
theorem dL_clock_3 : decode cL_clock 3 = .ok (.iload_n 1, 1) := by decide +kernel
theorem dL_clock_4 : decode cL_clock 4 = .ok (.invokevirtual 75, 3) := by decide +kernel
theorem dL_clock_7 : decode cL_clock 7 = .ok (.f2d, 1) := by decide +kernel
theorem dL_clock_8 : decode cL_clock 8 = .ok (.dastore, 1) := by decide +kernel
theorem dL_clock_9 : decode cL_clock 9 = .ok (.goto 6, 3) := by decide +kernel
theorem dL_clock_12 : decode cL_clock 12 = .ok (.astore_n 3, 1) := by decide +kernel
theorem dL_clock_13 : decode cL_clock 13 = .ok (.iconst 1, 1) := by decide +kernel
theorem dL_clock_14 : decode cL_clock 14 = .ok (.ireturn, 1) := by decide +kernel
theorem dL_clock_15 : decode cL_clock 15 = .ok (.iconst 0, 1) := by decide +kernel
theorem dL_clock_16 : decode cL_clock 16 = .ok (.ireturn, 1) := by decide +kernel
theorem dL_lease_0 : decode cL_lease 0 = .ok (.aload_n 2, 1) := by decide +kernel
theorem dL_lease_1 : decode cL_lease 1 = .ok (.iconst 0, 1) := by decide +kernel
theorem dL_lease_2 : decode cL_lease 2 = .ok (.aload_n 0, 1) := by decide +kernel
theorem dL_lease_3 : decode cL_lease 3 = .ok (.iload_n 1, 1) := by decide +kernel
theorem dL_lease_4 : decode cL_lease 4 = .ok (.invokevirtual 78, 3) := by decide +kernel
theorem dL_lease_7 : decode cL_lease 7 = .ok (.f2d, 1) := by decide +kernel
theorem dL_lease_8 : decode cL_lease 8 = .ok (.dastore, 1) := by decide +kernel
theorem dL_lease_9 : decode cL_lease 9 = .ok (.goto 6, 3) := by decide +kernel
theorem dL_lease_12 : decode cL_lease 12 = .ok (.astore_n 3, 1) := by decide +kernel
theorem dL_lease_13 : decode cL_lease 13 = .ok (.iconst 1, 1) := by decide +kernel
theorem dL_lease_14 : decode cL_lease 14 = .ok (.ireturn, 1) := by decide +kernel
theorem dL_lease_15 : decode cL_lease 15 = .ok (.iconst 0, 1) := by decide +kernel
theorem dL_lease_16 : decode cL_lease 16 = .ok (.ireturn, 1) := by decide +kernel
theorem dL_decision_0 : decode cL_decision 0 = .ok (.aload 4, 2) := by decide +kernel
theorem dL_decision_2 : decode cL_decision 2 = .ok (.iconst 0, 1) := by decide +kernel
theorem dL_decision_3 : decode cL_decision 3 = .ok (.aload_n 0, 1) := by decide +kernel
theorem dL_decision_4 : decode cL_decision 4 = .ok (.iload_n 1, 1) := by decide +kernel
theorem dL_decision_5 : decode cL_decision 5 = .ok (.iload_n 2, 1) := by decide +kernel
theorem dL_decision_6 : decode cL_decision 6 = .ok (.iload_n 3, 1) := by decide +kernel
theorem dL_decision_7 : decode cL_decision 7 = .ok (.invokevirtual 81, 3) := by decide +kernel
theorem dL_decision_10 : decode cL_decision 10 = .ok (.i2l, 1) := by decide +kernel
theorem dL_decision_11 : decode cL_decision 11 = .ok (.lastore, 1) := by decide +kernel
theorem dL_decision_12 : decode cL_decision 12 = .ok (.goto 11, 3) := by decide +kernel
theorem dL_decision_15 : decode cL_decision 15 = .ok (.astore 5, 2) := by decide +kernel
theorem dL_decision_17 : decode cL_decision 17 = .ok (.iconst 1, 1) := by decide +kernel
theorem dL_decision_18 : decode cL_decision 18 = .ok (.ireturn, 1) := by decide +kernel
theorem dL_decision_19 : decode cL_decision 19 = .ok (.astore 5, 2) := by decide +kernel
theorem dL_decision_21 : decode cL_decision 21 = .ok (.iconst 2, 1) := by decide +kernel
theorem dL_decision_22 : decode cL_decision 22 = .ok (.ireturn, 1) := by decide +kernel
theorem dL_decision_23 : decode cL_decision 23 = .ok (.iconst 0, 1) := by decide +kernel
theorem dL_decision_24 : decode cL_decision 24 = .ok (.ireturn, 1) := by decide +kernel
theorem dL_act_0 : decode cL_act 0 = .ok (.aload_n 3, 1) := by decide +kernel
theorem dL_act_1 : decode cL_act 1 = .ok (.iconst 0, 1) := by decide +kernel
theorem dL_act_2 : decode cL_act 2 = .ok (.aload_n 0, 1) := by decide +kernel
theorem dL_act_3 : decode cL_act 3 = .ok (.iload_n 1, 1) := by decide +kernel
theorem dL_act_4 : decode cL_act 4 = .ok (.iload_n 2, 1) := by decide +kernel
theorem dL_act_5 : decode cL_act 5 = .ok (.invokevirtual 84, 3) := by decide +kernel
theorem dL_act_8 : decode cL_act 8 = .ok (.i2l, 1) := by decide +kernel
theorem dL_act_9 : decode cL_act 9 = .ok (.lastore, 1) := by decide +kernel
theorem dL_act_10 : decode cL_act 10 = .ok (.goto 11, 3) := by decide +kernel
theorem dL_act_13 : decode cL_act 13 = .ok (.astore 4, 2) := by decide +kernel
theorem dL_act_15 : decode cL_act 15 = .ok (.iconst 1, 1) := by decide +kernel
theorem dL_act_16 : decode cL_act 16 = .ok (.ireturn, 1) := by decide +kernel
theorem dL_act_17 : decode cL_act 17 = .ok (.astore 4, 2) := by decide +kernel
theorem dL_act_19 : decode cL_act 19 = .ok (.iconst 2, 1) := by decide +kernel
theorem dL_act_20 : decode cL_act 20 = .ok (.ireturn, 1) := by decide +kernel
theorem dL_act_21 : decode cL_act 21 = .ok (.iconst 0, 1) := by decide +kernel
theorem dL_act_22 : decode cL_act 22 = .ok (.ireturn, 1) := by decide +kernel
theorem dL_law_0 : decode cL_law 0 = .ok (.new 8, 3) := by decide +kernel
theorem dL_law_3 : decode cL_law 3 = .ok (.dup, 1) := by decide +kernel
theorem dL_law_4 : decode cL_law 4 = .ok (.invokespecial 87, 3) := by decide +kernel
theorem dL_law_7 : decode cL_law 7 = .ok (.astore_n 1, 1) := by decide +kernel
theorem dL_law_8 : decode cL_law 8 = .ok (.new 88, 3) := by decide +kernel
theorem dL_law_11 : decode cL_law 11 = .ok (.dup, 1) := by decide +kernel
theorem dL_law_12 : decode cL_law 12 = .ok (.invokespecial 90, 3) := by decide +kernel
theorem dL_law_15 : decode cL_law 15 = .ok (.astore_n 2, 1) := by decide +kernel
theorem dL_law_16 : decode cL_law 16 = .ok (.iconst 1, 1) := by decide +kernel
theorem dL_law_17 : decode cL_law 17 = .ok (.newarray .long, 2) := by decide +kernel
theorem dL_law_19 : decode cL_law 19 = .ok (.astore_n 3, 1) := by decide +kernel
theorem dL_law_20 : decode cL_law 20 = .ok (.iconst 1, 1) := by decide +kernel
theorem dL_law_21 : decode cL_law 21 = .ok (.newarray .double, 2) := by decide +kernel
theorem dL_law_23 : decode cL_law 23 = .ok (.astore 4, 2) := by decide +kernel
theorem dL_law_25 : decode cL_law 25 = .ok (.iconst 0, 1) := by decide +kernel
theorem dL_law_26 : decode cL_law 26 = .ok (.istore 5, 2) := by decide +kernel
theorem dL_law_28 : decode cL_law 28 = .ok (.iload 5, 2) := by decide +kernel
theorem dL_law_30 : decode cL_law 30 = .ok (.aload_n 0, 1) := by decide +kernel
theorem dL_law_31 : decode cL_law 31 = .ok (.arraylength, 1) := by decide +kernel
theorem dL_law_32 : decode cL_law 32 = .ok (.iconst 5, 1) := by decide +kernel
theorem dL_law_33 : decode cL_law 33 = .ok (.isub, 1) := by decide +kernel
theorem dL_law_34 : decode cL_law 34 = .ok (.if_icmp .gt 1656, 3) := by decide +kernel
theorem dL_law_37 : decode cL_law 37 = .ok (.aload_n 0, 1) := by decide +kernel
theorem dL_law_38 : decode cL_law 38 = .ok (.iload 5, 2) := by decide +kernel
theorem dL_law_40 : decode cL_law 40 = .ok (.iaload, 1) := by decide +kernel
theorem dL_law_41 : decode cL_law 41 = .ok (.bipush 31, 2) := by decide +kernel
theorem dL_law_43 : decode cL_law 43 = .ok (.iand, 1) := by decide +kernel
theorem dL_law_44 : decode cL_law 44 = .ok (.tableswitch 1640 0 26 #[124, 180, 243, 318, 408, 456, 534, 590, 646, 702, 758, 814, 906, 962, 1042, 1055, 1068, 1136, 1204, 1284, 1362, 1440, 1453, 1533, 1546, 1614, 1627], 124) := by decide +kernel
theorem dL_law_168 : decode cL_law 168 = .ok (.aload_n 1, 1) := by decide +kernel
theorem dL_law_169 : decode cL_law 169 = .ok (.aload_n 0, 1) := by decide +kernel
theorem dL_law_170 : decode cL_law 170 = .ok (.iload 5, 2) := by decide +kernel
theorem dL_law_172 : decode cL_law 172 = .ok (.iconst 1, 1) := by decide +kernel
theorem dL_law_173 : decode cL_law 173 = .ok (.iadd, 1) := by decide +kernel
theorem dL_law_174 : decode cL_law 174 = .ok (.iaload, 1) := by decide +kernel
theorem dL_law_175 : decode cL_law 175 = .ok (.aload_n 3, 1) := by decide +kernel
theorem dL_law_176 : decode cL_law 176 = .ok (.invokestatic 91, 3) := by decide +kernel
theorem dL_law_179 : decode cL_law 179 = .ok (.istore 6, 2) := by decide +kernel
theorem dL_law_181 : decode cL_law 181 = .ok (.aload_n 2, 1) := by decide +kernel
theorem dL_law_182 : decode cL_law 182 = .ok (.aload_n 0, 1) := by decide +kernel
theorem dL_law_183 : decode cL_law 183 = .ok (.iload 5, 2) := by decide +kernel
theorem dL_law_185 : decode cL_law 185 = .ok (.iconst 1, 1) := by decide +kernel
theorem dL_law_186 : decode cL_law 186 = .ok (.iadd, 1) := by decide +kernel
theorem dL_law_187 : decode cL_law 187 = .ok (.iaload, 1) := by decide +kernel
theorem dL_law_188 : decode cL_law 188 = .ok (.invokevirtual 96, 3) := by decide +kernel
theorem dL_law_191 : decode cL_law 191 = .ok (.istore 7, 2) := by decide +kernel
theorem dL_law_193 : decode cL_law 193 = .ok (.aload_n 2, 1) := by decide +kernel
theorem dL_law_194 : decode cL_law 194 = .ok (.invokevirtual 97, 3) := by decide +kernel
theorem dL_law_197 : decode cL_law 197 = .ok (.iload 6, 2) := by decide +kernel
theorem dL_law_199 : decode cL_law 199 = .ok (.if_icmp .eq 5, 3) := by decide +kernel
theorem dL_law_202 : decode cL_law 202 = .ok (.iconst 0, 1) := by decide +kernel
theorem dL_law_203 : decode cL_law 203 = .ok (.ireturn, 1) := by decide +kernel
theorem dL_law_204 : decode cL_law 204 = .ok (.iload 6, 2) := by decide +kernel
theorem dL_law_206 : decode cL_law 206 = .ok (.ifCond .ne 15, 3) := by decide +kernel
theorem dL_law_209 : decode cL_law 209 = .ok (.aload_n 3, 1) := by decide +kernel
theorem dL_law_210 : decode cL_law 210 = .ok (.iconst 0, 1) := by decide +kernel
theorem dL_law_211 : decode cL_law 211 = .ok (.laload, 1) := by decide +kernel
theorem dL_law_212 : decode cL_law 212 = .ok (.iload 7, 2) := by decide +kernel
theorem dL_law_214 : decode cL_law 214 = .ok (.i2l, 1) := by decide +kernel
theorem dL_law_215 : decode cL_law 215 = .ok (.lcmp, 1) := by decide +kernel
theorem dL_law_216 : decode cL_law 216 = .ok (.ifCond .eq 5, 3) := by decide +kernel
theorem dL_law_219 : decode cL_law 219 = .ok (.iconst 0, 1) := by decide +kernel
theorem dL_law_220 : decode cL_law 220 = .ok (.ireturn, 1) := by decide +kernel
theorem dL_law_221 : decode cL_law 221 = .ok (.goto 1463, 3) := by decide +kernel
theorem dL_law_224 : decode cL_law 224 = .ok (.aload_n 1, 1) := by decide +kernel
theorem dL_law_225 : decode cL_law 225 = .ok (.aload_n 0, 1) := by decide +kernel
theorem dL_law_226 : decode cL_law 226 = .ok (.iload 5, 2) := by decide +kernel
theorem dL_law_228 : decode cL_law 228 = .ok (.iconst 1, 1) := by decide +kernel
theorem dL_law_229 : decode cL_law 229 = .ok (.iadd, 1) := by decide +kernel
theorem dL_law_230 : decode cL_law 230 = .ok (.iaload, 1) := by decide +kernel
theorem dL_law_231 : decode cL_law 231 = .ok (.aload_n 3, 1) := by decide +kernel
theorem dL_law_232 : decode cL_law 232 = .ok (.invokestatic 101, 3) := by decide +kernel
theorem dL_law_235 : decode cL_law 235 = .ok (.istore 6, 2) := by decide +kernel
theorem dL_law_237 : decode cL_law 237 = .ok (.aload_n 2, 1) := by decide +kernel
theorem dL_law_238 : decode cL_law 238 = .ok (.aload_n 0, 1) := by decide +kernel
theorem dL_law_239 : decode cL_law 239 = .ok (.iload 5, 2) := by decide +kernel
theorem dL_law_241 : decode cL_law 241 = .ok (.iconst 1, 1) := by decide +kernel
theorem dL_law_242 : decode cL_law 242 = .ok (.iadd, 1) := by decide +kernel
theorem dL_law_243 : decode cL_law 243 = .ok (.iaload, 1) := by decide +kernel
theorem dL_law_244 : decode cL_law 244 = .ok (.invokevirtual 103, 3) := by decide +kernel
theorem dL_law_247 : decode cL_law 247 = .ok (.istore 7, 2) := by decide +kernel
theorem dL_law_249 : decode cL_law 249 = .ok (.aload_n 2, 1) := by decide +kernel
theorem dL_law_250 : decode cL_law 250 = .ok (.invokevirtual 97, 3) := by decide +kernel
theorem dL_law_253 : decode cL_law 253 = .ok (.iload 6, 2) := by decide +kernel
theorem dL_law_255 : decode cL_law 255 = .ok (.if_icmp .eq 5, 3) := by decide +kernel
theorem dL_law_258 : decode cL_law 258 = .ok (.iconst 0, 1) := by decide +kernel
theorem dL_law_259 : decode cL_law 259 = .ok (.ireturn, 1) := by decide +kernel
theorem dL_law_260 : decode cL_law 260 = .ok (.iload 6, 2) := by decide +kernel
theorem dL_law_262 : decode cL_law 262 = .ok (.ifCond .ne 22, 3) := by decide +kernel
theorem dL_law_265 : decode cL_law 265 = .ok (.aload_n 3, 1) := by decide +kernel
theorem dL_law_266 : decode cL_law 266 = .ok (.iconst 0, 1) := by decide +kernel
theorem dL_law_267 : decode cL_law 267 = .ok (.laload, 1) := by decide +kernel
theorem dL_law_268 : decode cL_law 268 = .ok (.iload 7, 2) := by decide +kernel
theorem dL_law_270 : decode cL_law 270 = .ok (.ifCond .eq 7, 3) := by decide +kernel
theorem dL_law_273 : decode cL_law 273 = .ok (.lconst 1, 1) := by decide +kernel
theorem dL_law_274 : decode cL_law 274 = .ok (.goto 4, 3) := by decide +kernel
theorem dL_law_277 : decode cL_law 277 = .ok (.lconst 0, 1) := by decide +kernel
theorem dL_law_278 : decode cL_law 278 = .ok (.lcmp, 1) := by decide +kernel
theorem dL_law_279 : decode cL_law 279 = .ok (.ifCond .eq 5, 3) := by decide +kernel
theorem dL_law_282 : decode cL_law 282 = .ok (.iconst 0, 1) := by decide +kernel
theorem dL_law_283 : decode cL_law 283 = .ok (.ireturn, 1) := by decide +kernel
theorem dL_law_284 : decode cL_law 284 = .ok (.goto 1400, 3) := by decide +kernel
theorem dL_law_287 : decode cL_law 287 = .ok (.aload_n 1, 1) := by decide +kernel
theorem dL_law_288 : decode cL_law 288 = .ok (.aload_n 0, 1) := by decide +kernel
theorem dL_law_289 : decode cL_law 289 = .ok (.iload 5, 2) := by decide +kernel
theorem dL_law_291 : decode cL_law 291 = .ok (.iconst 1, 1) := by decide +kernel
theorem dL_law_292 : decode cL_law 292 = .ok (.iadd, 1) := by decide +kernel
theorem dL_law_293 : decode cL_law 293 = .ok (.iaload, 1) := by decide +kernel
theorem dL_law_294 : decode cL_law 294 = .ok (.aload_n 0, 1) := by decide +kernel
theorem dL_law_295 : decode cL_law 295 = .ok (.iload 5, 2) := by decide +kernel
theorem dL_law_297 : decode cL_law 297 = .ok (.iconst 2, 1) := by decide +kernel
theorem dL_law_298 : decode cL_law 298 = .ok (.iadd, 1) := by decide +kernel
theorem dL_law_299 : decode cL_law 299 = .ok (.iaload, 1) := by decide +kernel
theorem dL_law_300 : decode cL_law 300 = .ok (.aload_n 3, 1) := by decide +kernel
theorem dL_law_301 : decode cL_law 301 = .ok (.invokestatic 104, 3) := by decide +kernel
theorem dL_law_304 : decode cL_law 304 = .ok (.istore 6, 2) := by decide +kernel
theorem dL_law_306 : decode cL_law 306 = .ok (.aload_n 2, 1) := by decide +kernel
theorem dL_law_307 : decode cL_law 307 = .ok (.aload_n 0, 1) := by decide +kernel
theorem dL_law_308 : decode cL_law 308 = .ok (.iload 5, 2) := by decide +kernel
theorem dL_law_310 : decode cL_law 310 = .ok (.iconst 1, 1) := by decide +kernel
theorem dL_law_311 : decode cL_law 311 = .ok (.iadd, 1) := by decide +kernel
theorem dL_law_312 : decode cL_law 312 = .ok (.iaload, 1) := by decide +kernel
theorem dL_law_313 : decode cL_law 313 = .ok (.aload_n 0, 1) := by decide +kernel
theorem dL_law_314 : decode cL_law 314 = .ok (.iload 5, 2) := by decide +kernel
theorem dL_law_316 : decode cL_law 316 = .ok (.iconst 2, 1) := by decide +kernel
theorem dL_law_317 : decode cL_law 317 = .ok (.iadd, 1) := by decide +kernel
theorem dL_law_318 : decode cL_law 318 = .ok (.iaload, 1) := by decide +kernel
theorem dL_law_319 : decode cL_law 319 = .ok (.invokevirtual 107, 3) := by decide +kernel
theorem dL_law_322 : decode cL_law 322 = .ok (.istore 7, 2) := by decide +kernel
theorem dL_law_324 : decode cL_law 324 = .ok (.aload_n 2, 1) := by decide +kernel
theorem dL_law_325 : decode cL_law 325 = .ok (.invokevirtual 97, 3) := by decide +kernel
theorem dL_law_328 : decode cL_law 328 = .ok (.iload 6, 2) := by decide +kernel
theorem dL_law_330 : decode cL_law 330 = .ok (.if_icmp .eq 5, 3) := by decide +kernel
theorem dL_law_333 : decode cL_law 333 = .ok (.iconst 0, 1) := by decide +kernel
theorem dL_law_334 : decode cL_law 334 = .ok (.ireturn, 1) := by decide +kernel
theorem dL_law_335 : decode cL_law 335 = .ok (.iload 6, 2) := by decide +kernel
theorem dL_law_337 : decode cL_law 337 = .ok (.ifCond .ne 22, 3) := by decide +kernel
theorem dL_law_340 : decode cL_law 340 = .ok (.aload_n 3, 1) := by decide +kernel
theorem dL_law_341 : decode cL_law 341 = .ok (.iconst 0, 1) := by decide +kernel
theorem dL_law_342 : decode cL_law 342 = .ok (.laload, 1) := by decide +kernel
theorem dL_law_343 : decode cL_law 343 = .ok (.iload 7, 2) := by decide +kernel
theorem dL_law_345 : decode cL_law 345 = .ok (.ifCond .eq 7, 3) := by decide +kernel
theorem dL_law_348 : decode cL_law 348 = .ok (.lconst 1, 1) := by decide +kernel
theorem dL_law_349 : decode cL_law 349 = .ok (.goto 4, 3) := by decide +kernel
theorem dL_law_352 : decode cL_law 352 = .ok (.lconst 0, 1) := by decide +kernel
theorem dL_law_353 : decode cL_law 353 = .ok (.lcmp, 1) := by decide +kernel
theorem dL_law_354 : decode cL_law 354 = .ok (.ifCond .eq 5, 3) := by decide +kernel
theorem dL_law_357 : decode cL_law 357 = .ok (.iconst 0, 1) := by decide +kernel
theorem dL_law_358 : decode cL_law 358 = .ok (.ireturn, 1) := by decide +kernel
theorem dL_law_359 : decode cL_law 359 = .ok (.goto 1325, 3) := by decide +kernel
theorem dL_law_362 : decode cL_law 362 = .ok (.aload_n 1, 1) := by decide +kernel
theorem dL_law_363 : decode cL_law 363 = .ok (.aload_n 0, 1) := by decide +kernel
theorem dL_law_364 : decode cL_law 364 = .ok (.iload 5, 2) := by decide +kernel
theorem dL_law_366 : decode cL_law 366 = .ok (.iconst 1, 1) := by decide +kernel
theorem dL_law_367 : decode cL_law 367 = .ok (.iadd, 1) := by decide +kernel
theorem dL_law_368 : decode cL_law 368 = .ok (.iaload, 1) := by decide +kernel
theorem dL_law_369 : decode cL_law 369 = .ok (.aload_n 0, 1) := by decide +kernel
theorem dL_law_370 : decode cL_law 370 = .ok (.iload 5, 2) := by decide +kernel
theorem dL_law_372 : decode cL_law 372 = .ok (.iconst 2, 1) := by decide +kernel
theorem dL_law_373 : decode cL_law 373 = .ok (.iadd, 1) := by decide +kernel
theorem dL_law_374 : decode cL_law 374 = .ok (.iaload, 1) := by decide +kernel
theorem dL_law_375 : decode cL_law 375 = .ok (.aload 4, 2) := by decide +kernel
theorem dL_law_377 : decode cL_law 377 = .ok (.invokestatic 108, 3) := by decide +kernel
theorem dL_law_380 : decode cL_law 380 = .ok (.istore 6, 2) := by decide +kernel
theorem dL_law_382 : decode cL_law 382 = .ok (.aload_n 2, 1) := by decide +kernel
theorem dL_law_383 : decode cL_law 383 = .ok (.aload_n 0, 1) := by decide +kernel
theorem dL_law_384 : decode cL_law 384 = .ok (.iload 5, 2) := by decide +kernel
theorem dL_law_386 : decode cL_law 386 = .ok (.iconst 1, 1) := by decide +kernel
theorem dL_law_387 : decode cL_law 387 = .ok (.iadd, 1) := by decide +kernel
theorem dL_law_388 : decode cL_law 388 = .ok (.iaload, 1) := by decide +kernel
theorem dL_law_389 : decode cL_law 389 = .ok (.aload_n 0, 1) := by decide +kernel
theorem dL_law_390 : decode cL_law 390 = .ok (.iload 5, 2) := by decide +kernel
theorem dL_law_392 : decode cL_law 392 = .ok (.iconst 2, 1) := by decide +kernel
theorem dL_law_393 : decode cL_law 393 = .ok (.iadd, 1) := by decide +kernel
theorem dL_law_394 : decode cL_law 394 = .ok (.iaload, 1) := by decide +kernel
theorem dL_law_395 : decode cL_law 395 = .ok (.invokevirtual 111, 3) := by decide +kernel
theorem dL_law_398 : decode cL_law 398 = .ok (.fstore 7, 2) := by decide +kernel
theorem dL_law_400 : decode cL_law 400 = .ok (.aload_n 2, 1) := by decide +kernel
theorem dL_law_401 : decode cL_law 401 = .ok (.invokevirtual 97, 3) := by decide +kernel
theorem dL_law_404 : decode cL_law 404 = .ok (.iload 6, 2) := by decide +kernel
theorem dL_law_406 : decode cL_law 406 = .ok (.if_icmp .eq 5, 3) := by decide +kernel
theorem dL_law_409 : decode cL_law 409 = .ok (.iconst 0, 1) := by decide +kernel
theorem dL_law_410 : decode cL_law 410 = .ok (.ireturn, 1) := by decide +kernel
theorem dL_law_411 : decode cL_law 411 = .ok (.iload 6, 2) := by decide +kernel
theorem dL_law_413 : decode cL_law 413 = .ok (.ifCond .ne 36, 3) := by decide +kernel
theorem dL_law_416 : decode cL_law 416 = .ok (.aload 4, 2) := by decide +kernel
theorem dL_law_418 : decode cL_law 418 = .ok (.iconst 0, 1) := by decide +kernel
theorem dL_law_419 : decode cL_law 419 = .ok (.daload, 1) := by decide +kernel
theorem dL_law_420 : decode cL_law 420 = .ok (.fload 7, 2) := by decide +kernel
theorem dL_law_422 : decode cL_law 422 = .ok (.f2d, 1) := by decide +kernel
theorem dL_law_423 : decode cL_law 423 = .ok (.dcmp .l, 1) := by decide +kernel
theorem dL_law_424 : decode cL_law 424 = .ok (.ifCond .eq 25, 3) := by decide +kernel
theorem dL_law_427 : decode cL_law 427 = .ok (.aload 4, 2) := by decide +kernel
theorem dL_law_429 : decode cL_law 429 = .ok (.iconst 0, 1) := by decide +kernel
theorem dL_law_430 : decode cL_law 430 = .ok (.daload, 1) := by decide +kernel
theorem dL_law_431 : decode cL_law 431 = .ok (.aload 4, 2) := by decide +kernel
theorem dL_law_433 : decode cL_law 433 = .ok (.iconst 0, 1) := by decide +kernel
theorem dL_law_434 : decode cL_law 434 = .ok (.daload, 1) := by decide +kernel
theorem dL_law_435 : decode cL_law 435 = .ok (.dcmp .l, 1) := by decide +kernel
theorem dL_law_436 : decode cL_law 436 = .ok (.ifCond .eq 11, 3) := by decide +kernel
theorem dL_law_439 : decode cL_law 439 = .ok (.fload 7, 2) := by decide +kernel
theorem dL_law_441 : decode cL_law 441 = .ok (.fload 7, 2) := by decide +kernel
theorem dL_law_443 : decode cL_law 443 = .ok (.fcmp .l, 1) := by decide +kernel
theorem dL_law_444 : decode cL_law 444 = .ok (.ifCond .ne 5, 3) := by decide +kernel
theorem dL_law_447 : decode cL_law 447 = .ok (.iconst 0, 1) := by decide +kernel
theorem dL_law_448 : decode cL_law 448 = .ok (.ireturn, 1) := by decide +kernel
theorem dL_law_449 : decode cL_law 449 = .ok (.goto 1235, 3) := by decide +kernel
theorem dL_law_452 : decode cL_law 452 = .ok (.aload_n 1, 1) := by decide +kernel
theorem dL_law_453 : decode cL_law 453 = .ok (.aload_n 0, 1) := by decide +kernel
theorem dL_law_454 : decode cL_law 454 = .ok (.iload 5, 2) := by decide +kernel
theorem dL_law_456 : decode cL_law 456 = .ok (.iconst 1, 1) := by decide +kernel
theorem dL_law_457 : decode cL_law 457 = .ok (.iadd, 1) := by decide +kernel
theorem dL_law_458 : decode cL_law 458 = .ok (.iaload, 1) := by decide +kernel
theorem dL_law_459 : decode cL_law 459 = .ok (.aload_n 0, 1) := by decide +kernel
theorem dL_law_460 : decode cL_law 460 = .ok (.iload 5, 2) := by decide +kernel
theorem dL_law_462 : decode cL_law 462 = .ok (.iconst 2, 1) := by decide +kernel
theorem dL_law_463 : decode cL_law 463 = .ok (.iadd, 1) := by decide +kernel
theorem dL_law_464 : decode cL_law 464 = .ok (.iaload, 1) := by decide +kernel
theorem dL_law_465 : decode cL_law 465 = .ok (.invokestatic 112, 3) := by decide +kernel
theorem dL_law_468 : decode cL_law 468 = .ok (.istore 6, 2) := by decide +kernel
theorem dL_law_470 : decode cL_law 470 = .ok (.aload_n 2, 1) := by decide +kernel
theorem dL_law_471 : decode cL_law 471 = .ok (.aload_n 0, 1) := by decide +kernel
theorem dL_law_472 : decode cL_law 472 = .ok (.iload 5, 2) := by decide +kernel
theorem dL_law_474 : decode cL_law 474 = .ok (.iconst 1, 1) := by decide +kernel
theorem dL_law_475 : decode cL_law 475 = .ok (.iadd, 1) := by decide +kernel
theorem dL_law_476 : decode cL_law 476 = .ok (.iaload, 1) := by decide +kernel
theorem dL_law_477 : decode cL_law 477 = .ok (.aload_n 0, 1) := by decide +kernel
theorem dL_law_478 : decode cL_law 478 = .ok (.iload 5, 2) := by decide +kernel
theorem dL_law_480 : decode cL_law 480 = .ok (.iconst 2, 1) := by decide +kernel
theorem dL_law_481 : decode cL_law 481 = .ok (.iadd, 1) := by decide +kernel
theorem dL_law_482 : decode cL_law 482 = .ok (.iaload, 1) := by decide +kernel
theorem dL_law_483 : decode cL_law 483 = .ok (.invokevirtual 115, 3) := by decide +kernel
theorem dL_law_486 : decode cL_law 486 = .ok (.aload_n 2, 1) := by decide +kernel
theorem dL_law_487 : decode cL_law 487 = .ok (.invokevirtual 97, 3) := by decide +kernel
theorem dL_law_490 : decode cL_law 490 = .ok (.iload 6, 2) := by decide +kernel
theorem dL_law_492 : decode cL_law 492 = .ok (.if_icmp .eq 5, 3) := by decide +kernel
theorem dL_law_495 : decode cL_law 495 = .ok (.iconst 0, 1) := by decide +kernel
theorem dL_law_496 : decode cL_law 496 = .ok (.ireturn, 1) := by decide +kernel
theorem dL_law_497 : decode cL_law 497 = .ok (.goto 1187, 3) := by decide +kernel
theorem dL_law_500 : decode cL_law 500 = .ok (.aload_n 1, 1) := by decide +kernel
theorem dL_law_501 : decode cL_law 501 = .ok (.aload_n 0, 1) := by decide +kernel
theorem dL_law_502 : decode cL_law 502 = .ok (.iload 5, 2) := by decide +kernel
theorem dL_law_504 : decode cL_law 504 = .ok (.iconst 1, 1) := by decide +kernel
theorem dL_law_505 : decode cL_law 505 = .ok (.iadd, 1) := by decide +kernel
theorem dL_law_506 : decode cL_law 506 = .ok (.iaload, 1) := by decide +kernel
theorem dL_law_507 : decode cL_law 507 = .ok (.aload 4, 2) := by decide +kernel
theorem dL_law_509 : decode cL_law 509 = .ok (.invokestatic 116, 3) := by decide +kernel
theorem dL_law_512 : decode cL_law 512 = .ok (.istore 6, 2) := by decide +kernel
theorem dL_law_514 : decode cL_law 514 = .ok (.aload_n 2, 1) := by decide +kernel
theorem dL_law_515 : decode cL_law 515 = .ok (.aload_n 0, 1) := by decide +kernel
theorem dL_law_516 : decode cL_law 516 = .ok (.iload 5, 2) := by decide +kernel
theorem dL_law_518 : decode cL_law 518 = .ok (.iconst 1, 1) := by decide +kernel
theorem dL_law_519 : decode cL_law 519 = .ok (.iadd, 1) := by decide +kernel
theorem dL_law_520 : decode cL_law 520 = .ok (.iaload, 1) := by decide +kernel
theorem dL_law_521 : decode cL_law 521 = .ok (.invokevirtual 119, 3) := by decide +kernel
theorem dL_law_524 : decode cL_law 524 = .ok (.fstore 7, 2) := by decide +kernel
theorem dL_law_526 : decode cL_law 526 = .ok (.aload_n 2, 1) := by decide +kernel
theorem dL_law_527 : decode cL_law 527 = .ok (.invokevirtual 97, 3) := by decide +kernel
theorem dL_law_530 : decode cL_law 530 = .ok (.iload 6, 2) := by decide +kernel
theorem dL_law_532 : decode cL_law 532 = .ok (.if_icmp .eq 5, 3) := by decide +kernel
theorem dL_law_535 : decode cL_law 535 = .ok (.iconst 0, 1) := by decide +kernel
theorem dL_law_536 : decode cL_law 536 = .ok (.ireturn, 1) := by decide +kernel
theorem dL_law_537 : decode cL_law 537 = .ok (.iload 6, 2) := by decide +kernel
theorem dL_law_539 : decode cL_law 539 = .ok (.ifCond .ne 36, 3) := by decide +kernel
theorem dL_law_542 : decode cL_law 542 = .ok (.aload 4, 2) := by decide +kernel
theorem dL_law_544 : decode cL_law 544 = .ok (.iconst 0, 1) := by decide +kernel
theorem dL_law_545 : decode cL_law 545 = .ok (.daload, 1) := by decide +kernel
theorem dL_law_546 : decode cL_law 546 = .ok (.fload 7, 2) := by decide +kernel
theorem dL_law_548 : decode cL_law 548 = .ok (.f2d, 1) := by decide +kernel
theorem dL_law_549 : decode cL_law 549 = .ok (.dcmp .l, 1) := by decide +kernel
theorem dL_law_550 : decode cL_law 550 = .ok (.ifCond .eq 25, 3) := by decide +kernel
theorem dL_law_553 : decode cL_law 553 = .ok (.aload 4, 2) := by decide +kernel
theorem dL_law_555 : decode cL_law 555 = .ok (.iconst 0, 1) := by decide +kernel
theorem dL_law_556 : decode cL_law 556 = .ok (.daload, 1) := by decide +kernel
theorem dL_law_557 : decode cL_law 557 = .ok (.aload 4, 2) := by decide +kernel
theorem dL_law_559 : decode cL_law 559 = .ok (.iconst 0, 1) := by decide +kernel
theorem dL_law_560 : decode cL_law 560 = .ok (.daload, 1) := by decide +kernel
theorem dL_law_561 : decode cL_law 561 = .ok (.dcmp .l, 1) := by decide +kernel
theorem dL_law_562 : decode cL_law 562 = .ok (.ifCond .eq 11, 3) := by decide +kernel
theorem dL_law_565 : decode cL_law 565 = .ok (.fload 7, 2) := by decide +kernel
theorem dL_law_567 : decode cL_law 567 = .ok (.fload 7, 2) := by decide +kernel
theorem dL_law_569 : decode cL_law 569 = .ok (.fcmp .l, 1) := by decide +kernel
theorem dL_law_570 : decode cL_law 570 = .ok (.ifCond .ne 5, 3) := by decide +kernel
theorem dL_law_573 : decode cL_law 573 = .ok (.iconst 0, 1) := by decide +kernel
theorem dL_law_574 : decode cL_law 574 = .ok (.ireturn, 1) := by decide +kernel
theorem dL_law_575 : decode cL_law 575 = .ok (.goto 1109, 3) := by decide +kernel
theorem dL_law_578 : decode cL_law 578 = .ok (.aload_n 1, 1) := by decide +kernel
theorem dL_law_579 : decode cL_law 579 = .ok (.aload_n 0, 1) := by decide +kernel
theorem dL_law_580 : decode cL_law 580 = .ok (.iload 5, 2) := by decide +kernel
theorem dL_law_582 : decode cL_law 582 = .ok (.iconst 1, 1) := by decide +kernel
theorem dL_law_583 : decode cL_law 583 = .ok (.iadd, 1) := by decide +kernel
theorem dL_law_584 : decode cL_law 584 = .ok (.iaload, 1) := by decide +kernel
theorem dL_law_585 : decode cL_law 585 = .ok (.aload_n 3, 1) := by decide +kernel
theorem dL_law_586 : decode cL_law 586 = .ok (.invokestatic 120, 3) := by decide +kernel
theorem dL_law_589 : decode cL_law 589 = .ok (.istore 6, 2) := by decide +kernel
theorem dL_law_591 : decode cL_law 591 = .ok (.aload_n 2, 1) := by decide +kernel
theorem dL_law_592 : decode cL_law 592 = .ok (.aload_n 0, 1) := by decide +kernel
theorem dL_law_593 : decode cL_law 593 = .ok (.iload 5, 2) := by decide +kernel
theorem dL_law_595 : decode cL_law 595 = .ok (.iconst 1, 1) := by decide +kernel
theorem dL_law_596 : decode cL_law 596 = .ok (.iadd, 1) := by decide +kernel
theorem dL_law_597 : decode cL_law 597 = .ok (.iaload, 1) := by decide +kernel
theorem dL_law_598 : decode cL_law 598 = .ok (.invokevirtual 122, 3) := by decide +kernel
theorem dL_law_601 : decode cL_law 601 = .ok (.istore 7, 2) := by decide +kernel
theorem dL_law_603 : decode cL_law 603 = .ok (.aload_n 2, 1) := by decide +kernel
theorem dL_law_604 : decode cL_law 604 = .ok (.invokevirtual 97, 3) := by decide +kernel
theorem dL_law_607 : decode cL_law 607 = .ok (.iload 6, 2) := by decide +kernel
theorem dL_law_609 : decode cL_law 609 = .ok (.if_icmp .eq 5, 3) := by decide +kernel
theorem dL_law_612 : decode cL_law 612 = .ok (.iconst 0, 1) := by decide +kernel
theorem dL_law_613 : decode cL_law 613 = .ok (.ireturn, 1) := by decide +kernel
theorem dL_law_614 : decode cL_law 614 = .ok (.iload 6, 2) := by decide +kernel
theorem dL_law_616 : decode cL_law 616 = .ok (.ifCond .ne 15, 3) := by decide +kernel
theorem dL_law_619 : decode cL_law 619 = .ok (.aload_n 3, 1) := by decide +kernel
theorem dL_law_620 : decode cL_law 620 = .ok (.iconst 0, 1) := by decide +kernel
theorem dL_law_621 : decode cL_law 621 = .ok (.laload, 1) := by decide +kernel
theorem dL_law_622 : decode cL_law 622 = .ok (.iload 7, 2) := by decide +kernel
theorem dL_law_624 : decode cL_law 624 = .ok (.i2l, 1) := by decide +kernel
theorem dL_law_625 : decode cL_law 625 = .ok (.lcmp, 1) := by decide +kernel
theorem dL_law_626 : decode cL_law 626 = .ok (.ifCond .eq 5, 3) := by decide +kernel
theorem dL_law_629 : decode cL_law 629 = .ok (.iconst 0, 1) := by decide +kernel
theorem dL_law_630 : decode cL_law 630 = .ok (.ireturn, 1) := by decide +kernel
theorem dL_law_631 : decode cL_law 631 = .ok (.goto 1053, 3) := by decide +kernel
theorem dL_law_634 : decode cL_law 634 = .ok (.aload_n 1, 1) := by decide +kernel
theorem dL_law_635 : decode cL_law 635 = .ok (.aload_n 0, 1) := by decide +kernel
theorem dL_law_636 : decode cL_law 636 = .ok (.iload 5, 2) := by decide +kernel
theorem dL_law_638 : decode cL_law 638 = .ok (.iconst 1, 1) := by decide +kernel
theorem dL_law_639 : decode cL_law 639 = .ok (.iadd, 1) := by decide +kernel
theorem dL_law_640 : decode cL_law 640 = .ok (.iaload, 1) := by decide +kernel
theorem dL_law_641 : decode cL_law 641 = .ok (.aload_n 3, 1) := by decide +kernel
theorem dL_law_642 : decode cL_law 642 = .ok (.invokestatic 123, 3) := by decide +kernel
theorem dL_law_645 : decode cL_law 645 = .ok (.istore 6, 2) := by decide +kernel
theorem dL_law_647 : decode cL_law 647 = .ok (.aload_n 2, 1) := by decide +kernel
theorem dL_law_648 : decode cL_law 648 = .ok (.aload_n 0, 1) := by decide +kernel
theorem dL_law_649 : decode cL_law 649 = .ok (.iload 5, 2) := by decide +kernel
theorem dL_law_651 : decode cL_law 651 = .ok (.iconst 1, 1) := by decide +kernel
theorem dL_law_652 : decode cL_law 652 = .ok (.iadd, 1) := by decide +kernel
theorem dL_law_653 : decode cL_law 653 = .ok (.iaload, 1) := by decide +kernel
theorem dL_law_654 : decode cL_law 654 = .ok (.invokevirtual 125, 3) := by decide +kernel
theorem dL_law_657 : decode cL_law 657 = .ok (.istore 7, 2) := by decide +kernel
theorem dL_law_659 : decode cL_law 659 = .ok (.aload_n 2, 1) := by decide +kernel
theorem dL_law_660 : decode cL_law 660 = .ok (.invokevirtual 97, 3) := by decide +kernel
theorem dL_law_663 : decode cL_law 663 = .ok (.iload 6, 2) := by decide +kernel
theorem dL_law_665 : decode cL_law 665 = .ok (.if_icmp .eq 5, 3) := by decide +kernel
theorem dL_law_668 : decode cL_law 668 = .ok (.iconst 0, 1) := by decide +kernel
theorem dL_law_669 : decode cL_law 669 = .ok (.ireturn, 1) := by decide +kernel
theorem dL_law_670 : decode cL_law 670 = .ok (.iload 6, 2) := by decide +kernel
theorem dL_law_672 : decode cL_law 672 = .ok (.ifCond .ne 15, 3) := by decide +kernel
theorem dL_law_675 : decode cL_law 675 = .ok (.aload_n 3, 1) := by decide +kernel
theorem dL_law_676 : decode cL_law 676 = .ok (.iconst 0, 1) := by decide +kernel
theorem dL_law_677 : decode cL_law 677 = .ok (.laload, 1) := by decide +kernel
theorem dL_law_678 : decode cL_law 678 = .ok (.iload 7, 2) := by decide +kernel
theorem dL_law_680 : decode cL_law 680 = .ok (.i2l, 1) := by decide +kernel
theorem dL_law_681 : decode cL_law 681 = .ok (.lcmp, 1) := by decide +kernel
theorem dL_law_682 : decode cL_law 682 = .ok (.ifCond .eq 5, 3) := by decide +kernel
theorem dL_law_685 : decode cL_law 685 = .ok (.iconst 0, 1) := by decide +kernel
theorem dL_law_686 : decode cL_law 686 = .ok (.ireturn, 1) := by decide +kernel
theorem dL_law_687 : decode cL_law 687 = .ok (.goto 997, 3) := by decide +kernel
theorem dL_law_690 : decode cL_law 690 = .ok (.aload_n 1, 1) := by decide +kernel
theorem dL_law_691 : decode cL_law 691 = .ok (.aload_n 0, 1) := by decide +kernel
theorem dL_law_692 : decode cL_law 692 = .ok (.iload 5, 2) := by decide +kernel
theorem dL_law_694 : decode cL_law 694 = .ok (.iconst 1, 1) := by decide +kernel
theorem dL_law_695 : decode cL_law 695 = .ok (.iadd, 1) := by decide +kernel
theorem dL_law_696 : decode cL_law 696 = .ok (.iaload, 1) := by decide +kernel
theorem dL_law_697 : decode cL_law 697 = .ok (.aload_n 3, 1) := by decide +kernel
theorem dL_law_698 : decode cL_law 698 = .ok (.invokestatic 126, 3) := by decide +kernel
theorem dL_law_701 : decode cL_law 701 = .ok (.istore 6, 2) := by decide +kernel
theorem dL_law_703 : decode cL_law 703 = .ok (.aload_n 2, 1) := by decide +kernel
theorem dL_law_704 : decode cL_law 704 = .ok (.aload_n 0, 1) := by decide +kernel
theorem dL_law_705 : decode cL_law 705 = .ok (.iload 5, 2) := by decide +kernel
theorem dL_law_707 : decode cL_law 707 = .ok (.iconst 1, 1) := by decide +kernel
theorem dL_law_708 : decode cL_law 708 = .ok (.iadd, 1) := by decide +kernel
theorem dL_law_709 : decode cL_law 709 = .ok (.iaload, 1) := by decide +kernel
theorem dL_law_710 : decode cL_law 710 = .ok (.invokevirtual 128, 3) := by decide +kernel
theorem dL_law_713 : decode cL_law 713 = .ok (.istore 7, 2) := by decide +kernel
theorem dL_law_715 : decode cL_law 715 = .ok (.aload_n 2, 1) := by decide +kernel
theorem dL_law_716 : decode cL_law 716 = .ok (.invokevirtual 97, 3) := by decide +kernel
theorem dL_law_719 : decode cL_law 719 = .ok (.iload 6, 2) := by decide +kernel
theorem dL_law_721 : decode cL_law 721 = .ok (.if_icmp .eq 5, 3) := by decide +kernel
theorem dL_law_724 : decode cL_law 724 = .ok (.iconst 0, 1) := by decide +kernel
theorem dL_law_725 : decode cL_law 725 = .ok (.ireturn, 1) := by decide +kernel
theorem dL_law_726 : decode cL_law 726 = .ok (.iload 6, 2) := by decide +kernel
theorem dL_law_728 : decode cL_law 728 = .ok (.ifCond .ne 15, 3) := by decide +kernel
theorem dL_law_731 : decode cL_law 731 = .ok (.aload_n 3, 1) := by decide +kernel
theorem dL_law_732 : decode cL_law 732 = .ok (.iconst 0, 1) := by decide +kernel
theorem dL_law_733 : decode cL_law 733 = .ok (.laload, 1) := by decide +kernel
theorem dL_law_734 : decode cL_law 734 = .ok (.iload 7, 2) := by decide +kernel
theorem dL_law_736 : decode cL_law 736 = .ok (.i2l, 1) := by decide +kernel
theorem dL_law_737 : decode cL_law 737 = .ok (.lcmp, 1) := by decide +kernel
theorem dL_law_738 : decode cL_law 738 = .ok (.ifCond .eq 5, 3) := by decide +kernel
theorem dL_law_741 : decode cL_law 741 = .ok (.iconst 0, 1) := by decide +kernel
theorem dL_law_742 : decode cL_law 742 = .ok (.ireturn, 1) := by decide +kernel
theorem dL_law_743 : decode cL_law 743 = .ok (.goto 941, 3) := by decide +kernel
theorem dL_law_746 : decode cL_law 746 = .ok (.aload_n 1, 1) := by decide +kernel
theorem dL_law_747 : decode cL_law 747 = .ok (.aload_n 0, 1) := by decide +kernel
theorem dL_law_748 : decode cL_law 748 = .ok (.iload 5, 2) := by decide +kernel
theorem dL_law_750 : decode cL_law 750 = .ok (.iconst 1, 1) := by decide +kernel
theorem dL_law_751 : decode cL_law 751 = .ok (.iadd, 1) := by decide +kernel
theorem dL_law_752 : decode cL_law 752 = .ok (.iaload, 1) := by decide +kernel
theorem dL_law_753 : decode cL_law 753 = .ok (.aload_n 3, 1) := by decide +kernel
theorem dL_law_754 : decode cL_law 754 = .ok (.invokestatic 129, 3) := by decide +kernel
theorem dL_law_757 : decode cL_law 757 = .ok (.istore 6, 2) := by decide +kernel
theorem dL_law_759 : decode cL_law 759 = .ok (.aload_n 2, 1) := by decide +kernel
theorem dL_law_760 : decode cL_law 760 = .ok (.aload_n 0, 1) := by decide +kernel
theorem dL_law_761 : decode cL_law 761 = .ok (.iload 5, 2) := by decide +kernel
theorem dL_law_763 : decode cL_law 763 = .ok (.iconst 1, 1) := by decide +kernel
theorem dL_law_764 : decode cL_law 764 = .ok (.iadd, 1) := by decide +kernel
theorem dL_law_765 : decode cL_law 765 = .ok (.iaload, 1) := by decide +kernel
theorem dL_law_766 : decode cL_law 766 = .ok (.invokevirtual 131, 3) := by decide +kernel
theorem dL_law_769 : decode cL_law 769 = .ok (.istore 7, 2) := by decide +kernel
theorem dL_law_771 : decode cL_law 771 = .ok (.aload_n 2, 1) := by decide +kernel
theorem dL_law_772 : decode cL_law 772 = .ok (.invokevirtual 97, 3) := by decide +kernel
theorem dL_law_775 : decode cL_law 775 = .ok (.iload 6, 2) := by decide +kernel
theorem dL_law_777 : decode cL_law 777 = .ok (.if_icmp .eq 5, 3) := by decide +kernel
theorem dL_law_780 : decode cL_law 780 = .ok (.iconst 0, 1) := by decide +kernel
theorem dL_law_781 : decode cL_law 781 = .ok (.ireturn, 1) := by decide +kernel
theorem dL_law_782 : decode cL_law 782 = .ok (.iload 6, 2) := by decide +kernel
theorem dL_law_784 : decode cL_law 784 = .ok (.ifCond .ne 15, 3) := by decide +kernel
theorem dL_law_787 : decode cL_law 787 = .ok (.aload_n 3, 1) := by decide +kernel
theorem dL_law_788 : decode cL_law 788 = .ok (.iconst 0, 1) := by decide +kernel
theorem dL_law_789 : decode cL_law 789 = .ok (.laload, 1) := by decide +kernel
theorem dL_law_790 : decode cL_law 790 = .ok (.iload 7, 2) := by decide +kernel
theorem dL_law_792 : decode cL_law 792 = .ok (.i2l, 1) := by decide +kernel
theorem dL_law_793 : decode cL_law 793 = .ok (.lcmp, 1) := by decide +kernel
theorem dL_law_794 : decode cL_law 794 = .ok (.ifCond .eq 5, 3) := by decide +kernel
theorem dL_law_797 : decode cL_law 797 = .ok (.iconst 0, 1) := by decide +kernel
theorem dL_law_798 : decode cL_law 798 = .ok (.ireturn, 1) := by decide +kernel
theorem dL_law_799 : decode cL_law 799 = .ok (.goto 885, 3) := by decide +kernel
theorem dL_law_802 : decode cL_law 802 = .ok (.aload_n 1, 1) := by decide +kernel
theorem dL_law_803 : decode cL_law 803 = .ok (.aload_n 0, 1) := by decide +kernel
theorem dL_law_804 : decode cL_law 804 = .ok (.iload 5, 2) := by decide +kernel
theorem dL_law_806 : decode cL_law 806 = .ok (.iconst 1, 1) := by decide +kernel
theorem dL_law_807 : decode cL_law 807 = .ok (.iadd, 1) := by decide +kernel
theorem dL_law_808 : decode cL_law 808 = .ok (.iaload, 1) := by decide +kernel
theorem dL_law_809 : decode cL_law 809 = .ok (.aload_n 3, 1) := by decide +kernel
theorem dL_law_810 : decode cL_law 810 = .ok (.invokestatic 132, 3) := by decide +kernel
theorem dL_law_813 : decode cL_law 813 = .ok (.istore 6, 2) := by decide +kernel
theorem dL_law_815 : decode cL_law 815 = .ok (.aload_n 2, 1) := by decide +kernel
theorem dL_law_816 : decode cL_law 816 = .ok (.aload_n 0, 1) := by decide +kernel
theorem dL_law_817 : decode cL_law 817 = .ok (.iload 5, 2) := by decide +kernel
theorem dL_law_819 : decode cL_law 819 = .ok (.iconst 1, 1) := by decide +kernel
theorem dL_law_820 : decode cL_law 820 = .ok (.iadd, 1) := by decide +kernel
theorem dL_law_821 : decode cL_law 821 = .ok (.iaload, 1) := by decide +kernel
theorem dL_law_822 : decode cL_law 822 = .ok (.invokevirtual 134, 3) := by decide +kernel
theorem dL_law_825 : decode cL_law 825 = .ok (.istore 7, 2) := by decide +kernel
theorem dL_law_827 : decode cL_law 827 = .ok (.aload_n 2, 1) := by decide +kernel
theorem dL_law_828 : decode cL_law 828 = .ok (.invokevirtual 97, 3) := by decide +kernel
theorem dL_law_831 : decode cL_law 831 = .ok (.iload 6, 2) := by decide +kernel
theorem dL_law_833 : decode cL_law 833 = .ok (.if_icmp .eq 5, 3) := by decide +kernel
theorem dL_law_836 : decode cL_law 836 = .ok (.iconst 0, 1) := by decide +kernel
theorem dL_law_837 : decode cL_law 837 = .ok (.ireturn, 1) := by decide +kernel
theorem dL_law_838 : decode cL_law 838 = .ok (.iload 6, 2) := by decide +kernel
theorem dL_law_840 : decode cL_law 840 = .ok (.ifCond .ne 15, 3) := by decide +kernel
theorem dL_law_843 : decode cL_law 843 = .ok (.aload_n 3, 1) := by decide +kernel
theorem dL_law_844 : decode cL_law 844 = .ok (.iconst 0, 1) := by decide +kernel
theorem dL_law_845 : decode cL_law 845 = .ok (.laload, 1) := by decide +kernel
theorem dL_law_846 : decode cL_law 846 = .ok (.iload 7, 2) := by decide +kernel
theorem dL_law_848 : decode cL_law 848 = .ok (.i2l, 1) := by decide +kernel
theorem dL_law_849 : decode cL_law 849 = .ok (.lcmp, 1) := by decide +kernel
theorem dL_law_850 : decode cL_law 850 = .ok (.ifCond .eq 5, 3) := by decide +kernel
theorem dL_law_853 : decode cL_law 853 = .ok (.iconst 0, 1) := by decide +kernel
theorem dL_law_854 : decode cL_law 854 = .ok (.ireturn, 1) := by decide +kernel
theorem dL_law_855 : decode cL_law 855 = .ok (.goto 829, 3) := by decide +kernel
theorem dL_law_858 : decode cL_law 858 = .ok (.aload_n 1, 1) := by decide +kernel
theorem dL_law_859 : decode cL_law 859 = .ok (.aload_n 0, 1) := by decide +kernel
theorem dL_law_860 : decode cL_law 860 = .ok (.iload 5, 2) := by decide +kernel
theorem dL_law_862 : decode cL_law 862 = .ok (.iconst 1, 1) := by decide +kernel
theorem dL_law_863 : decode cL_law 863 = .ok (.iadd, 1) := by decide +kernel
theorem dL_law_864 : decode cL_law 864 = .ok (.iaload, 1) := by decide +kernel
theorem dL_law_865 : decode cL_law 865 = .ok (.aload_n 0, 1) := by decide +kernel
theorem dL_law_866 : decode cL_law 866 = .ok (.iload 5, 2) := by decide +kernel
theorem dL_law_868 : decode cL_law 868 = .ok (.iconst 2, 1) := by decide +kernel
theorem dL_law_869 : decode cL_law 869 = .ok (.iadd, 1) := by decide +kernel
theorem dL_law_870 : decode cL_law 870 = .ok (.iaload, 1) := by decide +kernel
theorem dL_law_871 : decode cL_law 871 = .ok (.aload_n 0, 1) := by decide +kernel
theorem dL_law_872 : decode cL_law 872 = .ok (.iload 5, 2) := by decide +kernel
theorem dL_law_874 : decode cL_law 874 = .ok (.iconst 3, 1) := by decide +kernel
theorem dL_law_875 : decode cL_law 875 = .ok (.iadd, 1) := by decide +kernel
theorem dL_law_876 : decode cL_law 876 = .ok (.iaload, 1) := by decide +kernel
theorem dL_law_877 : decode cL_law 877 = .ok (.aload_n 0, 1) := by decide +kernel
theorem dL_law_878 : decode cL_law 878 = .ok (.iload 5, 2) := by decide +kernel
theorem dL_law_880 : decode cL_law 880 = .ok (.iconst 4, 1) := by decide +kernel
theorem dL_law_881 : decode cL_law 881 = .ok (.iadd, 1) := by decide +kernel
theorem dL_law_882 : decode cL_law 882 = .ok (.iaload, 1) := by decide +kernel
theorem dL_law_883 : decode cL_law 883 = .ok (.aload_n 3, 1) := by decide +kernel
theorem dL_law_884 : decode cL_law 884 = .ok (.invokestatic 135, 3) := by decide +kernel
theorem dL_law_887 : decode cL_law 887 = .ok (.istore 6, 2) := by decide +kernel
theorem dL_law_889 : decode cL_law 889 = .ok (.aload_n 2, 1) := by decide +kernel
theorem dL_law_890 : decode cL_law 890 = .ok (.aload_n 0, 1) := by decide +kernel
theorem dL_law_891 : decode cL_law 891 = .ok (.iload 5, 2) := by decide +kernel
theorem dL_law_893 : decode cL_law 893 = .ok (.iconst 1, 1) := by decide +kernel
theorem dL_law_894 : decode cL_law 894 = .ok (.iadd, 1) := by decide +kernel
theorem dL_law_895 : decode cL_law 895 = .ok (.iaload, 1) := by decide +kernel
theorem dL_law_896 : decode cL_law 896 = .ok (.aload_n 0, 1) := by decide +kernel
theorem dL_law_897 : decode cL_law 897 = .ok (.iload 5, 2) := by decide +kernel
theorem dL_law_899 : decode cL_law 899 = .ok (.iconst 2, 1) := by decide +kernel
theorem dL_law_900 : decode cL_law 900 = .ok (.iadd, 1) := by decide +kernel
theorem dL_law_901 : decode cL_law 901 = .ok (.iaload, 1) := by decide +kernel
theorem dL_law_902 : decode cL_law 902 = .ok (.aload_n 0, 1) := by decide +kernel
theorem dL_law_903 : decode cL_law 903 = .ok (.iload 5, 2) := by decide +kernel
theorem dL_law_905 : decode cL_law 905 = .ok (.iconst 3, 1) := by decide +kernel
theorem dL_law_906 : decode cL_law 906 = .ok (.iadd, 1) := by decide +kernel
theorem dL_law_907 : decode cL_law 907 = .ok (.iaload, 1) := by decide +kernel
theorem dL_law_908 : decode cL_law 908 = .ok (.aload_n 0, 1) := by decide +kernel
theorem dL_law_909 : decode cL_law 909 = .ok (.iload 5, 2) := by decide +kernel
theorem dL_law_911 : decode cL_law 911 = .ok (.iconst 4, 1) := by decide +kernel
theorem dL_law_912 : decode cL_law 912 = .ok (.iadd, 1) := by decide +kernel
theorem dL_law_913 : decode cL_law 913 = .ok (.iaload, 1) := by decide +kernel
theorem dL_law_914 : decode cL_law 914 = .ok (.invokevirtual 138, 3) := by decide +kernel
theorem dL_law_917 : decode cL_law 917 = .ok (.istore 7, 2) := by decide +kernel
theorem dL_law_919 : decode cL_law 919 = .ok (.aload_n 2, 1) := by decide +kernel
theorem dL_law_920 : decode cL_law 920 = .ok (.invokevirtual 97, 3) := by decide +kernel
theorem dL_law_923 : decode cL_law 923 = .ok (.iload 6, 2) := by decide +kernel
theorem dL_law_925 : decode cL_law 925 = .ok (.if_icmp .eq 5, 3) := by decide +kernel
theorem dL_law_928 : decode cL_law 928 = .ok (.iconst 0, 1) := by decide +kernel
theorem dL_law_929 : decode cL_law 929 = .ok (.ireturn, 1) := by decide +kernel
theorem dL_law_930 : decode cL_law 930 = .ok (.iload 6, 2) := by decide +kernel
theorem dL_law_932 : decode cL_law 932 = .ok (.ifCond .ne 15, 3) := by decide +kernel
theorem dL_law_935 : decode cL_law 935 = .ok (.aload_n 3, 1) := by decide +kernel
theorem dL_law_936 : decode cL_law 936 = .ok (.iconst 0, 1) := by decide +kernel
theorem dL_law_937 : decode cL_law 937 = .ok (.laload, 1) := by decide +kernel
theorem dL_law_938 : decode cL_law 938 = .ok (.iload 7, 2) := by decide +kernel
theorem dL_law_940 : decode cL_law 940 = .ok (.i2l, 1) := by decide +kernel
theorem dL_law_941 : decode cL_law 941 = .ok (.lcmp, 1) := by decide +kernel
theorem dL_law_942 : decode cL_law 942 = .ok (.ifCond .eq 5, 3) := by decide +kernel
theorem dL_law_945 : decode cL_law 945 = .ok (.iconst 0, 1) := by decide +kernel
theorem dL_law_946 : decode cL_law 946 = .ok (.ireturn, 1) := by decide +kernel
theorem dL_law_947 : decode cL_law 947 = .ok (.goto 737, 3) := by decide +kernel
theorem dL_law_950 : decode cL_law 950 = .ok (.aload_n 1, 1) := by decide +kernel
theorem dL_law_951 : decode cL_law 951 = .ok (.aload_n 0, 1) := by decide +kernel
theorem dL_law_952 : decode cL_law 952 = .ok (.iload 5, 2) := by decide +kernel
theorem dL_law_954 : decode cL_law 954 = .ok (.iconst 1, 1) := by decide +kernel
theorem dL_law_955 : decode cL_law 955 = .ok (.iadd, 1) := by decide +kernel
theorem dL_law_956 : decode cL_law 956 = .ok (.iaload, 1) := by decide +kernel
theorem dL_law_957 : decode cL_law 957 = .ok (.aload_n 3, 1) := by decide +kernel
theorem dL_law_958 : decode cL_law 958 = .ok (.invokestatic 139, 3) := by decide +kernel
theorem dL_law_961 : decode cL_law 961 = .ok (.istore 6, 2) := by decide +kernel
theorem dL_law_963 : decode cL_law 963 = .ok (.aload_n 2, 1) := by decide +kernel
theorem dL_law_964 : decode cL_law 964 = .ok (.aload_n 0, 1) := by decide +kernel
theorem dL_law_965 : decode cL_law 965 = .ok (.iload 5, 2) := by decide +kernel
theorem dL_law_967 : decode cL_law 967 = .ok (.iconst 1, 1) := by decide +kernel
theorem dL_law_968 : decode cL_law 968 = .ok (.iadd, 1) := by decide +kernel
theorem dL_law_969 : decode cL_law 969 = .ok (.iaload, 1) := by decide +kernel
theorem dL_law_970 : decode cL_law 970 = .ok (.invokevirtual 141, 3) := by decide +kernel
theorem dL_law_973 : decode cL_law 973 = .ok (.istore 7, 2) := by decide +kernel
theorem dL_law_975 : decode cL_law 975 = .ok (.aload_n 2, 1) := by decide +kernel
theorem dL_law_976 : decode cL_law 976 = .ok (.invokevirtual 97, 3) := by decide +kernel
theorem dL_law_979 : decode cL_law 979 = .ok (.iload 6, 2) := by decide +kernel
theorem dL_law_981 : decode cL_law 981 = .ok (.if_icmp .eq 5, 3) := by decide +kernel
theorem dL_law_984 : decode cL_law 984 = .ok (.iconst 0, 1) := by decide +kernel
theorem dL_law_985 : decode cL_law 985 = .ok (.ireturn, 1) := by decide +kernel
theorem dL_law_986 : decode cL_law 986 = .ok (.iload 6, 2) := by decide +kernel
theorem dL_law_988 : decode cL_law 988 = .ok (.ifCond .ne 15, 3) := by decide +kernel
theorem dL_law_991 : decode cL_law 991 = .ok (.aload_n 3, 1) := by decide +kernel
theorem dL_law_992 : decode cL_law 992 = .ok (.iconst 0, 1) := by decide +kernel
theorem dL_law_993 : decode cL_law 993 = .ok (.laload, 1) := by decide +kernel
theorem dL_law_994 : decode cL_law 994 = .ok (.iload 7, 2) := by decide +kernel
theorem dL_law_996 : decode cL_law 996 = .ok (.i2l, 1) := by decide +kernel
theorem dL_law_997 : decode cL_law 997 = .ok (.lcmp, 1) := by decide +kernel
theorem dL_law_998 : decode cL_law 998 = .ok (.ifCond .eq 5, 3) := by decide +kernel
theorem dL_law_1001 : decode cL_law 1001 = .ok (.iconst 0, 1) := by decide +kernel
theorem dL_law_1002 : decode cL_law 1002 = .ok (.ireturn, 1) := by decide +kernel
theorem dL_law_1003 : decode cL_law 1003 = .ok (.goto 681, 3) := by decide +kernel
theorem dL_law_1006 : decode cL_law 1006 = .ok (.aload_n 1, 1) := by decide +kernel
theorem dL_law_1007 : decode cL_law 1007 = .ok (.aload_n 0, 1) := by decide +kernel
theorem dL_law_1008 : decode cL_law 1008 = .ok (.iload 5, 2) := by decide +kernel
theorem dL_law_1010 : decode cL_law 1010 = .ok (.iconst 1, 1) := by decide +kernel
theorem dL_law_1011 : decode cL_law 1011 = .ok (.iadd, 1) := by decide +kernel
theorem dL_law_1012 : decode cL_law 1012 = .ok (.iaload, 1) := by decide +kernel
theorem dL_law_1013 : decode cL_law 1013 = .ok (.aload_n 0, 1) := by decide +kernel
theorem dL_law_1014 : decode cL_law 1014 = .ok (.iload 5, 2) := by decide +kernel
theorem dL_law_1016 : decode cL_law 1016 = .ok (.iconst 2, 1) := by decide +kernel
theorem dL_law_1017 : decode cL_law 1017 = .ok (.iadd, 1) := by decide +kernel
theorem dL_law_1018 : decode cL_law 1018 = .ok (.iaload, 1) := by decide +kernel
theorem dL_law_1019 : decode cL_law 1019 = .ok (.aload_n 0, 1) := by decide +kernel
theorem dL_law_1020 : decode cL_law 1020 = .ok (.iload 5, 2) := by decide +kernel
theorem dL_law_1022 : decode cL_law 1022 = .ok (.iconst 3, 1) := by decide +kernel
theorem dL_law_1023 : decode cL_law 1023 = .ok (.iadd, 1) := by decide +kernel
theorem dL_law_1024 : decode cL_law 1024 = .ok (.iaload, 1) := by decide +kernel
theorem dL_law_1025 : decode cL_law 1025 = .ok (.aload_n 3, 1) := by decide +kernel
theorem dL_law_1026 : decode cL_law 1026 = .ok (.invokestatic 142, 3) := by decide +kernel
theorem dL_law_1029 : decode cL_law 1029 = .ok (.istore 6, 2) := by decide +kernel
theorem dL_law_1031 : decode cL_law 1031 = .ok (.aload_n 2, 1) := by decide +kernel
theorem dL_law_1032 : decode cL_law 1032 = .ok (.aload_n 0, 1) := by decide +kernel
theorem dL_law_1033 : decode cL_law 1033 = .ok (.iload 5, 2) := by decide +kernel
theorem dL_law_1035 : decode cL_law 1035 = .ok (.iconst 1, 1) := by decide +kernel
theorem dL_law_1036 : decode cL_law 1036 = .ok (.iadd, 1) := by decide +kernel
theorem dL_law_1037 : decode cL_law 1037 = .ok (.iaload, 1) := by decide +kernel
theorem dL_law_1038 : decode cL_law 1038 = .ok (.aload_n 0, 1) := by decide +kernel
theorem dL_law_1039 : decode cL_law 1039 = .ok (.iload 5, 2) := by decide +kernel
theorem dL_law_1041 : decode cL_law 1041 = .ok (.iconst 2, 1) := by decide +kernel
theorem dL_law_1042 : decode cL_law 1042 = .ok (.iadd, 1) := by decide +kernel
theorem dL_law_1043 : decode cL_law 1043 = .ok (.iaload, 1) := by decide +kernel
theorem dL_law_1044 : decode cL_law 1044 = .ok (.aload_n 0, 1) := by decide +kernel
theorem dL_law_1045 : decode cL_law 1045 = .ok (.iload 5, 2) := by decide +kernel
theorem dL_law_1047 : decode cL_law 1047 = .ok (.iconst 3, 1) := by decide +kernel
theorem dL_law_1048 : decode cL_law 1048 = .ok (.iadd, 1) := by decide +kernel
theorem dL_law_1049 : decode cL_law 1049 = .ok (.iaload, 1) := by decide +kernel
theorem dL_law_1050 : decode cL_law 1050 = .ok (.invokevirtual 145, 3) := by decide +kernel
theorem dL_law_1053 : decode cL_law 1053 = .ok (.istore 7, 2) := by decide +kernel
theorem dL_law_1055 : decode cL_law 1055 = .ok (.aload_n 2, 1) := by decide +kernel
theorem dL_law_1056 : decode cL_law 1056 = .ok (.invokevirtual 97, 3) := by decide +kernel
theorem dL_law_1059 : decode cL_law 1059 = .ok (.iload 6, 2) := by decide +kernel
theorem dL_law_1061 : decode cL_law 1061 = .ok (.if_icmp .eq 5, 3) := by decide +kernel
theorem dL_law_1064 : decode cL_law 1064 = .ok (.iconst 0, 1) := by decide +kernel
theorem dL_law_1065 : decode cL_law 1065 = .ok (.ireturn, 1) := by decide +kernel
theorem dL_law_1066 : decode cL_law 1066 = .ok (.iload 6, 2) := by decide +kernel
theorem dL_law_1068 : decode cL_law 1068 = .ok (.ifCond .ne 15, 3) := by decide +kernel
theorem dL_law_1071 : decode cL_law 1071 = .ok (.aload_n 3, 1) := by decide +kernel
theorem dL_law_1072 : decode cL_law 1072 = .ok (.iconst 0, 1) := by decide +kernel
theorem dL_law_1073 : decode cL_law 1073 = .ok (.laload, 1) := by decide +kernel
theorem dL_law_1074 : decode cL_law 1074 = .ok (.iload 7, 2) := by decide +kernel
theorem dL_law_1076 : decode cL_law 1076 = .ok (.i2l, 1) := by decide +kernel
theorem dL_law_1077 : decode cL_law 1077 = .ok (.lcmp, 1) := by decide +kernel
theorem dL_law_1078 : decode cL_law 1078 = .ok (.ifCond .eq 5, 3) := by decide +kernel
theorem dL_law_1081 : decode cL_law 1081 = .ok (.iconst 0, 1) := by decide +kernel
theorem dL_law_1082 : decode cL_law 1082 = .ok (.ireturn, 1) := by decide +kernel
theorem dL_law_1083 : decode cL_law 1083 = .ok (.goto 601, 3) := by decide +kernel
theorem dL_law_1086 : decode cL_law 1086 = .ok (.aload_n 1, 1) := by decide +kernel
theorem dL_law_1087 : decode cL_law 1087 = .ok (.invokevirtual 146, 3) := by decide +kernel
theorem dL_law_1090 : decode cL_law 1090 = .ok (.aload_n 2, 1) := by decide +kernel
theorem dL_law_1091 : decode cL_law 1091 = .ok (.invokevirtual 149, 3) := by decide +kernel
theorem dL_law_1094 : decode cL_law 1094 = .ok (.if_icmp .eq 590, 3) := by decide +kernel
theorem dL_law_1097 : decode cL_law 1097 = .ok (.iconst 0, 1) := by decide +kernel
theorem dL_law_1098 : decode cL_law 1098 = .ok (.ireturn, 1) := by decide +kernel
theorem dL_law_1099 : decode cL_law 1099 = .ok (.aload_n 1, 1) := by decide +kernel
theorem dL_law_1100 : decode cL_law 1100 = .ok (.invokevirtual 150, 3) := by decide +kernel
theorem dL_law_1103 : decode cL_law 1103 = .ok (.aload_n 2, 1) := by decide +kernel
theorem dL_law_1104 : decode cL_law 1104 = .ok (.invokevirtual 153, 3) := by decide +kernel
theorem dL_law_1107 : decode cL_law 1107 = .ok (.if_icmp .eq 577, 3) := by decide +kernel
theorem dL_law_1110 : decode cL_law 1110 = .ok (.iconst 0, 1) := by decide +kernel
theorem dL_law_1111 : decode cL_law 1111 = .ok (.ireturn, 1) := by decide +kernel
theorem dL_law_1112 : decode cL_law 1112 = .ok (.aload_n 1, 1) := by decide +kernel
theorem dL_law_1113 : decode cL_law 1113 = .ok (.aload_n 0, 1) := by decide +kernel
theorem dL_law_1114 : decode cL_law 1114 = .ok (.iload 5, 2) := by decide +kernel
theorem dL_law_1116 : decode cL_law 1116 = .ok (.iconst 1, 1) := by decide +kernel
theorem dL_law_1117 : decode cL_law 1117 = .ok (.iadd, 1) := by decide +kernel
theorem dL_law_1118 : decode cL_law 1118 = .ok (.iaload, 1) := by decide +kernel
theorem dL_law_1119 : decode cL_law 1119 = .ok (.aload_n 0, 1) := by decide +kernel
theorem dL_law_1120 : decode cL_law 1120 = .ok (.iload 5, 2) := by decide +kernel
theorem dL_law_1122 : decode cL_law 1122 = .ok (.iconst 2, 1) := by decide +kernel
theorem dL_law_1123 : decode cL_law 1123 = .ok (.iadd, 1) := by decide +kernel
theorem dL_law_1124 : decode cL_law 1124 = .ok (.iaload, 1) := by decide +kernel
theorem dL_law_1125 : decode cL_law 1125 = .ok (.aload_n 3, 1) := by decide +kernel
theorem dL_law_1126 : decode cL_law 1126 = .ok (.invokestatic 154, 3) := by decide +kernel
theorem dL_law_1129 : decode cL_law 1129 = .ok (.istore 6, 2) := by decide +kernel
theorem dL_law_1131 : decode cL_law 1131 = .ok (.aload_n 2, 1) := by decide +kernel
theorem dL_law_1132 : decode cL_law 1132 = .ok (.aload_n 0, 1) := by decide +kernel
theorem dL_law_1133 : decode cL_law 1133 = .ok (.iload 5, 2) := by decide +kernel
theorem dL_law_1135 : decode cL_law 1135 = .ok (.iconst 1, 1) := by decide +kernel
theorem dL_law_1136 : decode cL_law 1136 = .ok (.iadd, 1) := by decide +kernel
theorem dL_law_1137 : decode cL_law 1137 = .ok (.iaload, 1) := by decide +kernel
theorem dL_law_1138 : decode cL_law 1138 = .ok (.aload_n 0, 1) := by decide +kernel
theorem dL_law_1139 : decode cL_law 1139 = .ok (.iload 5, 2) := by decide +kernel
theorem dL_law_1141 : decode cL_law 1141 = .ok (.iconst 2, 1) := by decide +kernel
theorem dL_law_1142 : decode cL_law 1142 = .ok (.iadd, 1) := by decide +kernel
theorem dL_law_1143 : decode cL_law 1143 = .ok (.iaload, 1) := by decide +kernel
theorem dL_law_1144 : decode cL_law 1144 = .ok (.invokevirtual 156, 3) := by decide +kernel
theorem dL_law_1147 : decode cL_law 1147 = .ok (.istore 7, 2) := by decide +kernel
theorem dL_law_1149 : decode cL_law 1149 = .ok (.aload_n 2, 1) := by decide +kernel
theorem dL_law_1150 : decode cL_law 1150 = .ok (.invokevirtual 97, 3) := by decide +kernel
theorem dL_law_1153 : decode cL_law 1153 = .ok (.iload 6, 2) := by decide +kernel
theorem dL_law_1155 : decode cL_law 1155 = .ok (.if_icmp .eq 5, 3) := by decide +kernel
theorem dL_law_1158 : decode cL_law 1158 = .ok (.iconst 0, 1) := by decide +kernel
theorem dL_law_1159 : decode cL_law 1159 = .ok (.ireturn, 1) := by decide +kernel
theorem dL_law_1160 : decode cL_law 1160 = .ok (.iload 6, 2) := by decide +kernel
theorem dL_law_1162 : decode cL_law 1162 = .ok (.ifCond .ne 15, 3) := by decide +kernel
theorem dL_law_1165 : decode cL_law 1165 = .ok (.aload_n 3, 1) := by decide +kernel
theorem dL_law_1166 : decode cL_law 1166 = .ok (.iconst 0, 1) := by decide +kernel
theorem dL_law_1167 : decode cL_law 1167 = .ok (.laload, 1) := by decide +kernel
theorem dL_law_1168 : decode cL_law 1168 = .ok (.iload 7, 2) := by decide +kernel
theorem dL_law_1170 : decode cL_law 1170 = .ok (.i2l, 1) := by decide +kernel
theorem dL_law_1171 : decode cL_law 1171 = .ok (.lcmp, 1) := by decide +kernel
theorem dL_law_1172 : decode cL_law 1172 = .ok (.ifCond .eq 5, 3) := by decide +kernel
theorem dL_law_1175 : decode cL_law 1175 = .ok (.iconst 0, 1) := by decide +kernel
theorem dL_law_1176 : decode cL_law 1176 = .ok (.ireturn, 1) := by decide +kernel
theorem dL_law_1177 : decode cL_law 1177 = .ok (.goto 507, 3) := by decide +kernel
theorem dL_law_1180 : decode cL_law 1180 = .ok (.aload_n 1, 1) := by decide +kernel
theorem dL_law_1181 : decode cL_law 1181 = .ok (.aload_n 0, 1) := by decide +kernel
theorem dL_law_1182 : decode cL_law 1182 = .ok (.iload 5, 2) := by decide +kernel
theorem dL_law_1184 : decode cL_law 1184 = .ok (.iconst 1, 1) := by decide +kernel
theorem dL_law_1185 : decode cL_law 1185 = .ok (.iadd, 1) := by decide +kernel
theorem dL_law_1186 : decode cL_law 1186 = .ok (.iaload, 1) := by decide +kernel
theorem dL_law_1187 : decode cL_law 1187 = .ok (.aload_n 0, 1) := by decide +kernel
theorem dL_law_1188 : decode cL_law 1188 = .ok (.iload 5, 2) := by decide +kernel
theorem dL_law_1190 : decode cL_law 1190 = .ok (.iconst 2, 1) := by decide +kernel
theorem dL_law_1191 : decode cL_law 1191 = .ok (.iadd, 1) := by decide +kernel
theorem dL_law_1192 : decode cL_law 1192 = .ok (.iaload, 1) := by decide +kernel
theorem dL_law_1193 : decode cL_law 1193 = .ok (.aload_n 3, 1) := by decide +kernel
theorem dL_law_1194 : decode cL_law 1194 = .ok (.invokestatic 157, 3) := by decide +kernel
theorem dL_law_1197 : decode cL_law 1197 = .ok (.istore 6, 2) := by decide +kernel
theorem dL_law_1199 : decode cL_law 1199 = .ok (.aload_n 2, 1) := by decide +kernel
theorem dL_law_1200 : decode cL_law 1200 = .ok (.aload_n 0, 1) := by decide +kernel
theorem dL_law_1201 : decode cL_law 1201 = .ok (.iload 5, 2) := by decide +kernel
theorem dL_law_1203 : decode cL_law 1203 = .ok (.iconst 1, 1) := by decide +kernel
theorem dL_law_1204 : decode cL_law 1204 = .ok (.iadd, 1) := by decide +kernel
theorem dL_law_1205 : decode cL_law 1205 = .ok (.iaload, 1) := by decide +kernel
theorem dL_law_1206 : decode cL_law 1206 = .ok (.aload_n 0, 1) := by decide +kernel
theorem dL_law_1207 : decode cL_law 1207 = .ok (.iload 5, 2) := by decide +kernel
theorem dL_law_1209 : decode cL_law 1209 = .ok (.iconst 2, 1) := by decide +kernel
theorem dL_law_1210 : decode cL_law 1210 = .ok (.iadd, 1) := by decide +kernel
theorem dL_law_1211 : decode cL_law 1211 = .ok (.iaload, 1) := by decide +kernel
theorem dL_law_1212 : decode cL_law 1212 = .ok (.invokevirtual 159, 3) := by decide +kernel
theorem dL_law_1215 : decode cL_law 1215 = .ok (.istore 7, 2) := by decide +kernel
theorem dL_law_1217 : decode cL_law 1217 = .ok (.aload_n 2, 1) := by decide +kernel
theorem dL_law_1218 : decode cL_law 1218 = .ok (.invokevirtual 97, 3) := by decide +kernel
theorem dL_law_1221 : decode cL_law 1221 = .ok (.iload 6, 2) := by decide +kernel
theorem dL_law_1223 : decode cL_law 1223 = .ok (.if_icmp .eq 5, 3) := by decide +kernel
theorem dL_law_1226 : decode cL_law 1226 = .ok (.iconst 0, 1) := by decide +kernel
theorem dL_law_1227 : decode cL_law 1227 = .ok (.ireturn, 1) := by decide +kernel
theorem dL_law_1228 : decode cL_law 1228 = .ok (.iload 6, 2) := by decide +kernel
theorem dL_law_1230 : decode cL_law 1230 = .ok (.ifCond .ne 15, 3) := by decide +kernel
theorem dL_law_1233 : decode cL_law 1233 = .ok (.aload_n 3, 1) := by decide +kernel
theorem dL_law_1234 : decode cL_law 1234 = .ok (.iconst 0, 1) := by decide +kernel
theorem dL_law_1235 : decode cL_law 1235 = .ok (.laload, 1) := by decide +kernel
theorem dL_law_1236 : decode cL_law 1236 = .ok (.iload 7, 2) := by decide +kernel
theorem dL_law_1238 : decode cL_law 1238 = .ok (.i2l, 1) := by decide +kernel
theorem dL_law_1239 : decode cL_law 1239 = .ok (.lcmp, 1) := by decide +kernel
theorem dL_law_1240 : decode cL_law 1240 = .ok (.ifCond .eq 5, 3) := by decide +kernel
theorem dL_law_1243 : decode cL_law 1243 = .ok (.iconst 0, 1) := by decide +kernel
theorem dL_law_1244 : decode cL_law 1244 = .ok (.ireturn, 1) := by decide +kernel
theorem dL_law_1245 : decode cL_law 1245 = .ok (.goto 439, 3) := by decide +kernel
theorem dL_law_1248 : decode cL_law 1248 = .ok (.aload_n 1, 1) := by decide +kernel
theorem dL_law_1249 : decode cL_law 1249 = .ok (.aload_n 0, 1) := by decide +kernel
theorem dL_law_1250 : decode cL_law 1250 = .ok (.iload 5, 2) := by decide +kernel
theorem dL_law_1252 : decode cL_law 1252 = .ok (.iconst 1, 1) := by decide +kernel
theorem dL_law_1253 : decode cL_law 1253 = .ok (.iadd, 1) := by decide +kernel
theorem dL_law_1254 : decode cL_law 1254 = .ok (.iaload, 1) := by decide +kernel
theorem dL_law_1255 : decode cL_law 1255 = .ok (.aload_n 0, 1) := by decide +kernel
theorem dL_law_1256 : decode cL_law 1256 = .ok (.iload 5, 2) := by decide +kernel
theorem dL_law_1258 : decode cL_law 1258 = .ok (.iconst 2, 1) := by decide +kernel
theorem dL_law_1259 : decode cL_law 1259 = .ok (.iadd, 1) := by decide +kernel
theorem dL_law_1260 : decode cL_law 1260 = .ok (.iaload, 1) := by decide +kernel
theorem dL_law_1261 : decode cL_law 1261 = .ok (.aload_n 0, 1) := by decide +kernel
theorem dL_law_1262 : decode cL_law 1262 = .ok (.iload 5, 2) := by decide +kernel
theorem dL_law_1264 : decode cL_law 1264 = .ok (.iconst 3, 1) := by decide +kernel
theorem dL_law_1265 : decode cL_law 1265 = .ok (.iadd, 1) := by decide +kernel
theorem dL_law_1266 : decode cL_law 1266 = .ok (.iaload, 1) := by decide +kernel
theorem dL_law_1267 : decode cL_law 1267 = .ok (.aload_n 3, 1) := by decide +kernel
theorem dL_law_1268 : decode cL_law 1268 = .ok (.invokestatic 160, 3) := by decide +kernel
theorem dL_law_1271 : decode cL_law 1271 = .ok (.istore 6, 2) := by decide +kernel
theorem dL_law_1273 : decode cL_law 1273 = .ok (.aload_n 2, 1) := by decide +kernel
theorem dL_law_1274 : decode cL_law 1274 = .ok (.aload_n 0, 1) := by decide +kernel
theorem dL_law_1275 : decode cL_law 1275 = .ok (.iload 5, 2) := by decide +kernel
theorem dL_law_1277 : decode cL_law 1277 = .ok (.iconst 1, 1) := by decide +kernel
theorem dL_law_1278 : decode cL_law 1278 = .ok (.iadd, 1) := by decide +kernel
theorem dL_law_1279 : decode cL_law 1279 = .ok (.iaload, 1) := by decide +kernel
theorem dL_law_1280 : decode cL_law 1280 = .ok (.aload_n 0, 1) := by decide +kernel
theorem dL_law_1281 : decode cL_law 1281 = .ok (.iload 5, 2) := by decide +kernel
theorem dL_law_1283 : decode cL_law 1283 = .ok (.iconst 2, 1) := by decide +kernel
theorem dL_law_1284 : decode cL_law 1284 = .ok (.iadd, 1) := by decide +kernel
theorem dL_law_1285 : decode cL_law 1285 = .ok (.iaload, 1) := by decide +kernel
theorem dL_law_1286 : decode cL_law 1286 = .ok (.aload_n 0, 1) := by decide +kernel
theorem dL_law_1287 : decode cL_law 1287 = .ok (.iload 5, 2) := by decide +kernel
theorem dL_law_1289 : decode cL_law 1289 = .ok (.iconst 3, 1) := by decide +kernel
theorem dL_law_1290 : decode cL_law 1290 = .ok (.iadd, 1) := by decide +kernel
theorem dL_law_1291 : decode cL_law 1291 = .ok (.iaload, 1) := by decide +kernel
theorem dL_law_1292 : decode cL_law 1292 = .ok (.invokevirtual 162, 3) := by decide +kernel
theorem dL_law_1295 : decode cL_law 1295 = .ok (.istore 7, 2) := by decide +kernel
theorem dL_law_1297 : decode cL_law 1297 = .ok (.aload_n 2, 1) := by decide +kernel
theorem dL_law_1298 : decode cL_law 1298 = .ok (.invokevirtual 97, 3) := by decide +kernel
theorem dL_law_1301 : decode cL_law 1301 = .ok (.iload 6, 2) := by decide +kernel
theorem dL_law_1303 : decode cL_law 1303 = .ok (.if_icmp .eq 5, 3) := by decide +kernel
theorem dL_law_1306 : decode cL_law 1306 = .ok (.iconst 0, 1) := by decide +kernel
theorem dL_law_1307 : decode cL_law 1307 = .ok (.ireturn, 1) := by decide +kernel
theorem dL_law_1308 : decode cL_law 1308 = .ok (.iload 6, 2) := by decide +kernel
theorem dL_law_1310 : decode cL_law 1310 = .ok (.ifCond .ne 15, 3) := by decide +kernel
theorem dL_law_1313 : decode cL_law 1313 = .ok (.aload_n 3, 1) := by decide +kernel
theorem dL_law_1314 : decode cL_law 1314 = .ok (.iconst 0, 1) := by decide +kernel
theorem dL_law_1315 : decode cL_law 1315 = .ok (.laload, 1) := by decide +kernel
theorem dL_law_1316 : decode cL_law 1316 = .ok (.iload 7, 2) := by decide +kernel
theorem dL_law_1318 : decode cL_law 1318 = .ok (.i2l, 1) := by decide +kernel
theorem dL_law_1319 : decode cL_law 1319 = .ok (.lcmp, 1) := by decide +kernel
theorem dL_law_1320 : decode cL_law 1320 = .ok (.ifCond .eq 5, 3) := by decide +kernel
theorem dL_law_1323 : decode cL_law 1323 = .ok (.iconst 0, 1) := by decide +kernel
theorem dL_law_1324 : decode cL_law 1324 = .ok (.ireturn, 1) := by decide +kernel
theorem dL_law_1325 : decode cL_law 1325 = .ok (.goto 359, 3) := by decide +kernel
theorem dL_law_1328 : decode cL_law 1328 = .ok (.aload_n 1, 1) := by decide +kernel
theorem dL_law_1329 : decode cL_law 1329 = .ok (.aload_n 0, 1) := by decide +kernel
theorem dL_law_1330 : decode cL_law 1330 = .ok (.iload 5, 2) := by decide +kernel
theorem dL_law_1332 : decode cL_law 1332 = .ok (.iconst 1, 1) := by decide +kernel
theorem dL_law_1333 : decode cL_law 1333 = .ok (.iadd, 1) := by decide +kernel
theorem dL_law_1334 : decode cL_law 1334 = .ok (.iaload, 1) := by decide +kernel
theorem dL_law_1335 : decode cL_law 1335 = .ok (.aload 4, 2) := by decide +kernel
theorem dL_law_1337 : decode cL_law 1337 = .ok (.invokestatic 163, 3) := by decide +kernel
theorem dL_law_1340 : decode cL_law 1340 = .ok (.istore 6, 2) := by decide +kernel
theorem dL_law_1342 : decode cL_law 1342 = .ok (.aload_n 2, 1) := by decide +kernel
theorem dL_law_1343 : decode cL_law 1343 = .ok (.aload_n 0, 1) := by decide +kernel
theorem dL_law_1344 : decode cL_law 1344 = .ok (.iload 5, 2) := by decide +kernel
theorem dL_law_1346 : decode cL_law 1346 = .ok (.iconst 1, 1) := by decide +kernel
theorem dL_law_1347 : decode cL_law 1347 = .ok (.iadd, 1) := by decide +kernel
theorem dL_law_1348 : decode cL_law 1348 = .ok (.iaload, 1) := by decide +kernel
theorem dL_law_1349 : decode cL_law 1349 = .ok (.invokevirtual 165, 3) := by decide +kernel
theorem dL_law_1352 : decode cL_law 1352 = .ok (.fstore 7, 2) := by decide +kernel
theorem dL_law_1354 : decode cL_law 1354 = .ok (.aload_n 2, 1) := by decide +kernel
theorem dL_law_1355 : decode cL_law 1355 = .ok (.invokevirtual 97, 3) := by decide +kernel
theorem dL_law_1358 : decode cL_law 1358 = .ok (.iload 6, 2) := by decide +kernel
theorem dL_law_1360 : decode cL_law 1360 = .ok (.if_icmp .eq 5, 3) := by decide +kernel
theorem dL_law_1363 : decode cL_law 1363 = .ok (.iconst 0, 1) := by decide +kernel
theorem dL_law_1364 : decode cL_law 1364 = .ok (.ireturn, 1) := by decide +kernel
theorem dL_law_1365 : decode cL_law 1365 = .ok (.iload 6, 2) := by decide +kernel
theorem dL_law_1367 : decode cL_law 1367 = .ok (.ifCond .ne 36, 3) := by decide +kernel
theorem dL_law_1370 : decode cL_law 1370 = .ok (.aload 4, 2) := by decide +kernel
theorem dL_law_1372 : decode cL_law 1372 = .ok (.iconst 0, 1) := by decide +kernel
theorem dL_law_1373 : decode cL_law 1373 = .ok (.daload, 1) := by decide +kernel
theorem dL_law_1374 : decode cL_law 1374 = .ok (.fload 7, 2) := by decide +kernel
theorem dL_law_1376 : decode cL_law 1376 = .ok (.f2d, 1) := by decide +kernel
theorem dL_law_1377 : decode cL_law 1377 = .ok (.dcmp .l, 1) := by decide +kernel
theorem dL_law_1378 : decode cL_law 1378 = .ok (.ifCond .eq 25, 3) := by decide +kernel
theorem dL_law_1381 : decode cL_law 1381 = .ok (.aload 4, 2) := by decide +kernel
theorem dL_law_1383 : decode cL_law 1383 = .ok (.iconst 0, 1) := by decide +kernel
theorem dL_law_1384 : decode cL_law 1384 = .ok (.daload, 1) := by decide +kernel
theorem dL_law_1385 : decode cL_law 1385 = .ok (.aload 4, 2) := by decide +kernel
theorem dL_law_1387 : decode cL_law 1387 = .ok (.iconst 0, 1) := by decide +kernel
theorem dL_law_1388 : decode cL_law 1388 = .ok (.daload, 1) := by decide +kernel
theorem dL_law_1389 : decode cL_law 1389 = .ok (.dcmp .l, 1) := by decide +kernel
theorem dL_law_1390 : decode cL_law 1390 = .ok (.ifCond .eq 11, 3) := by decide +kernel
theorem dL_law_1393 : decode cL_law 1393 = .ok (.fload 7, 2) := by decide +kernel
theorem dL_law_1395 : decode cL_law 1395 = .ok (.fload 7, 2) := by decide +kernel
theorem dL_law_1397 : decode cL_law 1397 = .ok (.fcmp .l, 1) := by decide +kernel
theorem dL_law_1398 : decode cL_law 1398 = .ok (.ifCond .ne 5, 3) := by decide +kernel
theorem dL_law_1401 : decode cL_law 1401 = .ok (.iconst 0, 1) := by decide +kernel
theorem dL_law_1402 : decode cL_law 1402 = .ok (.ireturn, 1) := by decide +kernel
theorem dL_law_1403 : decode cL_law 1403 = .ok (.goto 281, 3) := by decide +kernel
theorem dL_law_1406 : decode cL_law 1406 = .ok (.aload_n 1, 1) := by decide +kernel
theorem dL_law_1407 : decode cL_law 1407 = .ok (.aload_n 0, 1) := by decide +kernel
theorem dL_law_1408 : decode cL_law 1408 = .ok (.iload 5, 2) := by decide +kernel
theorem dL_law_1410 : decode cL_law 1410 = .ok (.iconst 1, 1) := by decide +kernel
theorem dL_law_1411 : decode cL_law 1411 = .ok (.iadd, 1) := by decide +kernel
theorem dL_law_1412 : decode cL_law 1412 = .ok (.iaload, 1) := by decide +kernel
theorem dL_law_1413 : decode cL_law 1413 = .ok (.aload 4, 2) := by decide +kernel
theorem dL_law_1415 : decode cL_law 1415 = .ok (.invokestatic 166, 3) := by decide +kernel
theorem dL_law_1418 : decode cL_law 1418 = .ok (.istore 6, 2) := by decide +kernel
theorem dL_law_1420 : decode cL_law 1420 = .ok (.aload_n 2, 1) := by decide +kernel
theorem dL_law_1421 : decode cL_law 1421 = .ok (.aload_n 0, 1) := by decide +kernel
theorem dL_law_1422 : decode cL_law 1422 = .ok (.iload 5, 2) := by decide +kernel
theorem dL_law_1424 : decode cL_law 1424 = .ok (.iconst 1, 1) := by decide +kernel
theorem dL_law_1425 : decode cL_law 1425 = .ok (.iadd, 1) := by decide +kernel
theorem dL_law_1426 : decode cL_law 1426 = .ok (.iaload, 1) := by decide +kernel
theorem dL_law_1427 : decode cL_law 1427 = .ok (.invokevirtual 168, 3) := by decide +kernel
theorem dL_law_1430 : decode cL_law 1430 = .ok (.fstore 7, 2) := by decide +kernel
theorem dL_law_1432 : decode cL_law 1432 = .ok (.aload_n 2, 1) := by decide +kernel
theorem dL_law_1433 : decode cL_law 1433 = .ok (.invokevirtual 97, 3) := by decide +kernel
theorem dL_law_1436 : decode cL_law 1436 = .ok (.iload 6, 2) := by decide +kernel
theorem dL_law_1438 : decode cL_law 1438 = .ok (.if_icmp .eq 5, 3) := by decide +kernel
theorem dL_law_1441 : decode cL_law 1441 = .ok (.iconst 0, 1) := by decide +kernel
theorem dL_law_1442 : decode cL_law 1442 = .ok (.ireturn, 1) := by decide +kernel
theorem dL_law_1443 : decode cL_law 1443 = .ok (.iload 6, 2) := by decide +kernel
theorem dL_law_1445 : decode cL_law 1445 = .ok (.ifCond .ne 36, 3) := by decide +kernel
theorem dL_law_1448 : decode cL_law 1448 = .ok (.aload 4, 2) := by decide +kernel
theorem dL_law_1450 : decode cL_law 1450 = .ok (.iconst 0, 1) := by decide +kernel
theorem dL_law_1451 : decode cL_law 1451 = .ok (.daload, 1) := by decide +kernel
theorem dL_law_1452 : decode cL_law 1452 = .ok (.fload 7, 2) := by decide +kernel
theorem dL_law_1454 : decode cL_law 1454 = .ok (.f2d, 1) := by decide +kernel
theorem dL_law_1455 : decode cL_law 1455 = .ok (.dcmp .l, 1) := by decide +kernel
theorem dL_law_1456 : decode cL_law 1456 = .ok (.ifCond .eq 25, 3) := by decide +kernel
theorem dL_law_1459 : decode cL_law 1459 = .ok (.aload 4, 2) := by decide +kernel
theorem dL_law_1461 : decode cL_law 1461 = .ok (.iconst 0, 1) := by decide +kernel
theorem dL_law_1462 : decode cL_law 1462 = .ok (.daload, 1) := by decide +kernel
theorem dL_law_1463 : decode cL_law 1463 = .ok (.aload 4, 2) := by decide +kernel
theorem dL_law_1465 : decode cL_law 1465 = .ok (.iconst 0, 1) := by decide +kernel
theorem dL_law_1466 : decode cL_law 1466 = .ok (.daload, 1) := by decide +kernel
theorem dL_law_1467 : decode cL_law 1467 = .ok (.dcmp .l, 1) := by decide +kernel
theorem dL_law_1468 : decode cL_law 1468 = .ok (.ifCond .eq 11, 3) := by decide +kernel
theorem dL_law_1471 : decode cL_law 1471 = .ok (.fload 7, 2) := by decide +kernel
theorem dL_law_1473 : decode cL_law 1473 = .ok (.fload 7, 2) := by decide +kernel
theorem dL_law_1475 : decode cL_law 1475 = .ok (.fcmp .l, 1) := by decide +kernel
theorem dL_law_1476 : decode cL_law 1476 = .ok (.ifCond .ne 5, 3) := by decide +kernel
theorem dL_law_1479 : decode cL_law 1479 = .ok (.iconst 0, 1) := by decide +kernel
theorem dL_law_1480 : decode cL_law 1480 = .ok (.ireturn, 1) := by decide +kernel
theorem dL_law_1481 : decode cL_law 1481 = .ok (.goto 203, 3) := by decide +kernel
theorem dL_law_1484 : decode cL_law 1484 = .ok (.aload_n 1, 1) := by decide +kernel
theorem dL_law_1485 : decode cL_law 1485 = .ok (.invokevirtual 169, 3) := by decide +kernel
theorem dL_law_1488 : decode cL_law 1488 = .ok (.aload_n 2, 1) := by decide +kernel
theorem dL_law_1489 : decode cL_law 1489 = .ok (.invokevirtual 172, 3) := by decide +kernel
theorem dL_law_1492 : decode cL_law 1492 = .ok (.if_icmp .eq 192, 3) := by decide +kernel
theorem dL_law_1495 : decode cL_law 1495 = .ok (.iconst 0, 1) := by decide +kernel
theorem dL_law_1496 : decode cL_law 1496 = .ok (.ireturn, 1) := by decide +kernel
theorem dL_law_1497 : decode cL_law 1497 = .ok (.aload_n 1, 1) := by decide +kernel
theorem dL_law_1498 : decode cL_law 1498 = .ok (.aload_n 0, 1) := by decide +kernel
theorem dL_law_1499 : decode cL_law 1499 = .ok (.iload 5, 2) := by decide +kernel
theorem dL_law_1501 : decode cL_law 1501 = .ok (.iconst 1, 1) := by decide +kernel
theorem dL_law_1502 : decode cL_law 1502 = .ok (.iadd, 1) := by decide +kernel
theorem dL_law_1503 : decode cL_law 1503 = .ok (.iaload, 1) := by decide +kernel
theorem dL_law_1504 : decode cL_law 1504 = .ok (.aload_n 0, 1) := by decide +kernel
theorem dL_law_1505 : decode cL_law 1505 = .ok (.iload 5, 2) := by decide +kernel
theorem dL_law_1507 : decode cL_law 1507 = .ok (.iconst 2, 1) := by decide +kernel
theorem dL_law_1508 : decode cL_law 1508 = .ok (.iadd, 1) := by decide +kernel
theorem dL_law_1509 : decode cL_law 1509 = .ok (.iaload, 1) := by decide +kernel
theorem dL_law_1510 : decode cL_law 1510 = .ok (.aload_n 0, 1) := by decide +kernel
theorem dL_law_1511 : decode cL_law 1511 = .ok (.iload 5, 2) := by decide +kernel
theorem dL_law_1513 : decode cL_law 1513 = .ok (.iconst 3, 1) := by decide +kernel
theorem dL_law_1514 : decode cL_law 1514 = .ok (.iadd, 1) := by decide +kernel
theorem dL_law_1515 : decode cL_law 1515 = .ok (.iaload, 1) := by decide +kernel
theorem dL_law_1516 : decode cL_law 1516 = .ok (.aload_n 3, 1) := by decide +kernel
theorem dL_law_1517 : decode cL_law 1517 = .ok (.invokestatic 173, 3) := by decide +kernel
theorem dL_law_1520 : decode cL_law 1520 = .ok (.istore 6, 2) := by decide +kernel
theorem dL_law_1522 : decode cL_law 1522 = .ok (.aload_n 2, 1) := by decide +kernel
theorem dL_law_1523 : decode cL_law 1523 = .ok (.aload_n 0, 1) := by decide +kernel
theorem dL_law_1524 : decode cL_law 1524 = .ok (.iload 5, 2) := by decide +kernel
theorem dL_law_1526 : decode cL_law 1526 = .ok (.iconst 1, 1) := by decide +kernel
theorem dL_law_1527 : decode cL_law 1527 = .ok (.iadd, 1) := by decide +kernel
theorem dL_law_1528 : decode cL_law 1528 = .ok (.iaload, 1) := by decide +kernel
theorem dL_law_1529 : decode cL_law 1529 = .ok (.aload_n 0, 1) := by decide +kernel
theorem dL_law_1530 : decode cL_law 1530 = .ok (.iload 5, 2) := by decide +kernel
theorem dL_law_1532 : decode cL_law 1532 = .ok (.iconst 2, 1) := by decide +kernel
theorem dL_law_1533 : decode cL_law 1533 = .ok (.iadd, 1) := by decide +kernel
theorem dL_law_1534 : decode cL_law 1534 = .ok (.iaload, 1) := by decide +kernel
theorem dL_law_1535 : decode cL_law 1535 = .ok (.aload_n 0, 1) := by decide +kernel
theorem dL_law_1536 : decode cL_law 1536 = .ok (.iload 5, 2) := by decide +kernel
theorem dL_law_1538 : decode cL_law 1538 = .ok (.iconst 3, 1) := by decide +kernel
theorem dL_law_1539 : decode cL_law 1539 = .ok (.iadd, 1) := by decide +kernel
theorem dL_law_1540 : decode cL_law 1540 = .ok (.iaload, 1) := by decide +kernel
theorem dL_law_1541 : decode cL_law 1541 = .ok (.invokevirtual 175, 3) := by decide +kernel
theorem dL_law_1544 : decode cL_law 1544 = .ok (.istore 7, 2) := by decide +kernel
theorem dL_law_1546 : decode cL_law 1546 = .ok (.aload_n 2, 1) := by decide +kernel
theorem dL_law_1547 : decode cL_law 1547 = .ok (.invokevirtual 97, 3) := by decide +kernel
theorem dL_law_1550 : decode cL_law 1550 = .ok (.iload 6, 2) := by decide +kernel
theorem dL_law_1552 : decode cL_law 1552 = .ok (.if_icmp .eq 5, 3) := by decide +kernel
theorem dL_law_1555 : decode cL_law 1555 = .ok (.iconst 0, 1) := by decide +kernel
theorem dL_law_1556 : decode cL_law 1556 = .ok (.ireturn, 1) := by decide +kernel
theorem dL_law_1557 : decode cL_law 1557 = .ok (.iload 6, 2) := by decide +kernel
theorem dL_law_1559 : decode cL_law 1559 = .ok (.ifCond .ne 15, 3) := by decide +kernel
theorem dL_law_1562 : decode cL_law 1562 = .ok (.aload_n 3, 1) := by decide +kernel
theorem dL_law_1563 : decode cL_law 1563 = .ok (.iconst 0, 1) := by decide +kernel
theorem dL_law_1564 : decode cL_law 1564 = .ok (.laload, 1) := by decide +kernel
theorem dL_law_1565 : decode cL_law 1565 = .ok (.iload 7, 2) := by decide +kernel
theorem dL_law_1567 : decode cL_law 1567 = .ok (.i2l, 1) := by decide +kernel
theorem dL_law_1568 : decode cL_law 1568 = .ok (.lcmp, 1) := by decide +kernel
theorem dL_law_1569 : decode cL_law 1569 = .ok (.ifCond .eq 5, 3) := by decide +kernel
theorem dL_law_1572 : decode cL_law 1572 = .ok (.iconst 0, 1) := by decide +kernel
theorem dL_law_1573 : decode cL_law 1573 = .ok (.ireturn, 1) := by decide +kernel
theorem dL_law_1574 : decode cL_law 1574 = .ok (.goto 110, 3) := by decide +kernel
theorem dL_law_1577 : decode cL_law 1577 = .ok (.aload_n 1, 1) := by decide +kernel
theorem dL_law_1578 : decode cL_law 1578 = .ok (.invokevirtual 176, 3) := by decide +kernel
theorem dL_law_1581 : decode cL_law 1581 = .ok (.aload_n 2, 1) := by decide +kernel
theorem dL_law_1582 : decode cL_law 1582 = .ok (.invokevirtual 179, 3) := by decide +kernel
theorem dL_law_1585 : decode cL_law 1585 = .ok (.if_icmp .eq 99, 3) := by decide +kernel
theorem dL_law_1588 : decode cL_law 1588 = .ok (.iconst 0, 1) := by decide +kernel
theorem dL_law_1589 : decode cL_law 1589 = .ok (.ireturn, 1) := by decide +kernel
theorem dL_law_1590 : decode cL_law 1590 = .ok (.aload_n 1, 1) := by decide +kernel
theorem dL_law_1591 : decode cL_law 1591 = .ok (.aload_n 0, 1) := by decide +kernel
theorem dL_law_1592 : decode cL_law 1592 = .ok (.iload 5, 2) := by decide +kernel
theorem dL_law_1594 : decode cL_law 1594 = .ok (.iconst 1, 1) := by decide +kernel
theorem dL_law_1595 : decode cL_law 1595 = .ok (.iadd, 1) := by decide +kernel
theorem dL_law_1596 : decode cL_law 1596 = .ok (.iaload, 1) := by decide +kernel
theorem dL_law_1597 : decode cL_law 1597 = .ok (.aload_n 0, 1) := by decide +kernel
theorem dL_law_1598 : decode cL_law 1598 = .ok (.iload 5, 2) := by decide +kernel
theorem dL_law_1600 : decode cL_law 1600 = .ok (.iconst 2, 1) := by decide +kernel
theorem dL_law_1601 : decode cL_law 1601 = .ok (.iadd, 1) := by decide +kernel
theorem dL_law_1602 : decode cL_law 1602 = .ok (.iaload, 1) := by decide +kernel
theorem dL_law_1603 : decode cL_law 1603 = .ok (.aload_n 3, 1) := by decide +kernel
theorem dL_law_1604 : decode cL_law 1604 = .ok (.invokestatic 180, 3) := by decide +kernel
theorem dL_law_1607 : decode cL_law 1607 = .ok (.istore 6, 2) := by decide +kernel
theorem dL_law_1609 : decode cL_law 1609 = .ok (.aload_n 2, 1) := by decide +kernel
theorem dL_law_1610 : decode cL_law 1610 = .ok (.aload_n 0, 1) := by decide +kernel
theorem dL_law_1611 : decode cL_law 1611 = .ok (.iload 5, 2) := by decide +kernel
theorem dL_law_1613 : decode cL_law 1613 = .ok (.iconst 1, 1) := by decide +kernel
theorem dL_law_1614 : decode cL_law 1614 = .ok (.iadd, 1) := by decide +kernel
theorem dL_law_1615 : decode cL_law 1615 = .ok (.iaload, 1) := by decide +kernel
theorem dL_law_1616 : decode cL_law 1616 = .ok (.aload_n 0, 1) := by decide +kernel
theorem dL_law_1617 : decode cL_law 1617 = .ok (.iload 5, 2) := by decide +kernel
theorem dL_law_1619 : decode cL_law 1619 = .ok (.iconst 2, 1) := by decide +kernel
theorem dL_law_1620 : decode cL_law 1620 = .ok (.iadd, 1) := by decide +kernel
theorem dL_law_1621 : decode cL_law 1621 = .ok (.iaload, 1) := by decide +kernel
theorem dL_law_1622 : decode cL_law 1622 = .ok (.invokevirtual 182, 3) := by decide +kernel
theorem dL_law_1625 : decode cL_law 1625 = .ok (.istore 7, 2) := by decide +kernel
theorem dL_law_1627 : decode cL_law 1627 = .ok (.aload_n 2, 1) := by decide +kernel
theorem dL_law_1628 : decode cL_law 1628 = .ok (.invokevirtual 97, 3) := by decide +kernel
theorem dL_law_1631 : decode cL_law 1631 = .ok (.iload 6, 2) := by decide +kernel
theorem dL_law_1633 : decode cL_law 1633 = .ok (.if_icmp .eq 5, 3) := by decide +kernel
theorem dL_law_1636 : decode cL_law 1636 = .ok (.iconst 0, 1) := by decide +kernel
theorem dL_law_1637 : decode cL_law 1637 = .ok (.ireturn, 1) := by decide +kernel
theorem dL_law_1638 : decode cL_law 1638 = .ok (.iload 6, 2) := by decide +kernel
theorem dL_law_1640 : decode cL_law 1640 = .ok (.ifCond .ne 15, 3) := by decide +kernel
theorem dL_law_1643 : decode cL_law 1643 = .ok (.aload_n 3, 1) := by decide +kernel
theorem dL_law_1644 : decode cL_law 1644 = .ok (.iconst 0, 1) := by decide +kernel
theorem dL_law_1645 : decode cL_law 1645 = .ok (.laload, 1) := by decide +kernel
theorem dL_law_1646 : decode cL_law 1646 = .ok (.iload 7, 2) := by decide +kernel
theorem dL_law_1648 : decode cL_law 1648 = .ok (.i2l, 1) := by decide +kernel
theorem dL_law_1649 : decode cL_law 1649 = .ok (.lcmp, 1) := by decide +kernel
theorem dL_law_1650 : decode cL_law 1650 = .ok (.ifCond .eq 5, 3) := by decide +kernel
theorem dL_law_1653 : decode cL_law 1653 = .ok (.iconst 0, 1) := by decide +kernel
theorem dL_law_1654 : decode cL_law 1654 = .ok (.ireturn, 1) := by decide +kernel
theorem dL_law_1655 : decode cL_law 1655 = .ok (.goto 29, 3) := by decide +kernel
theorem dL_law_1658 : decode cL_law 1658 = .ok (.aload_n 1, 1) := by decide +kernel
theorem dL_law_1659 : decode cL_law 1659 = .ok (.invokevirtual 183, 3) := by decide +kernel
theorem dL_law_1662 : decode cL_law 1662 = .ok (.aload_n 2, 1) := by decide +kernel
theorem dL_law_1663 : decode cL_law 1663 = .ok (.invokevirtual 187, 3) := by decide +kernel
theorem dL_law_1666 : decode cL_law 1666 = .ok (.if_icmp .eq 18, 3) := by decide +kernel
theorem dL_law_1669 : decode cL_law 1669 = .ok (.iconst 0, 1) := by decide +kernel
theorem dL_law_1670 : decode cL_law 1670 = .ok (.ireturn, 1) := by decide +kernel
theorem dL_law_1671 : decode cL_law 1671 = .ok (.aload_n 1, 1) := by decide +kernel
theorem dL_law_1672 : decode cL_law 1672 = .ok (.invokevirtual 188, 3) := by decide +kernel
theorem dL_law_1675 : decode cL_law 1675 = .ok (.aload_n 2, 1) := by decide +kernel
theorem dL_law_1676 : decode cL_law 1676 = .ok (.invokevirtual 191, 3) := by decide +kernel
theorem dL_law_1679 : decode cL_law 1679 = .ok (.if_icmp .eq 5, 3) := by decide +kernel
theorem dL_law_1682 : decode cL_law 1682 = .ok (.iconst 0, 1) := by decide +kernel
theorem dL_law_1683 : decode cL_law 1683 = .ok (.ireturn, 1) := by decide +kernel
theorem dL_law_1684 : decode cL_law 1684 = .ok (.iinc 5 5, 3) := by decide +kernel
theorem dL_law_1687 : decode cL_law 1687 = .ok (.goto (-1659), 3) := by decide +kernel
theorem dL_law_1690 : decode cL_law 1690 = .ok (.iconst 1, 1) := by decide +kernel
theorem dL_law_1691 : decode cL_law 1691 = .ok (.ireturn, 1) := by decide +kernel
