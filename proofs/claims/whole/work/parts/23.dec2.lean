theorem dX10_at_5 : decode cX10_at 5 = .ok (.aload_n 0, 1) := by decide +kernel
theorem dX10_at_6 : decode cX10_at 6 = .ok (.getfield 33, 3) := by decide +kernel
theorem dX10_at_9 : decode cX10_at 9 = .ok (.if_icmp .ge 12, 3) := by decide +kernel
theorem dX10_at_12 : decode cX10_at 12 = .ok (.aload_n 0, 1) := by decide +kernel
theorem dX10_at_13 : decode cX10_at 13 = .ok (.getfield 11, 3) := by decide +kernel
theorem dX10_at_16 : decode cX10_at 16 = .ok (.iload_n 1, 1) := by decide +kernel
theorem dX10_at_17 : decode cX10_at 17 = .ok (.aaload, 1) := by decide +kernel
theorem dX10_at_18 : decode cX10_at 18 = .ok (.goto 4, 3) := by decide +kernel
theorem dX10_at_21 : decode cX10_at 21 = .ok (.aconst_null, 1) := by decide +kernel
theorem dX10_at_22 : decode cX10_at 22 = .ok (.areturn, 1) := by decide +kernel
theorem dX10_send_0 : decode cX10_send 0 = .ok (.aload_n 0, 1) := by decide +kernel
theorem dX10_send_1 : decode cX10_send 1 = .ok (.getfield 26, 3) := by decide +kernel
theorem dX10_send_4 : decode cX10_send 4 = .ok (.astore 5, 2) := by decide +kernel
theorem dX10_send_6 : decode cX10_send 6 = .ok (.aload_n 0, 1) := by decide +kernel
theorem dX10_send_7 : decode cX10_send 7 = .ok (.getfield 33, 3) := by decide +kernel
theorem dX10_send_10 : decode cX10_send 10 = .ok (.bipush 60, 2) := by decide +kernel
theorem dX10_send_12 : decode cX10_send 12 = .ok (.if_icmp .ge 24, 3) := by decide +kernel
theorem dX10_send_15 : decode cX10_send 15 = .ok (.aload_n 0, 1) := by decide +kernel
theorem dX10_send_16 : decode cX10_send 16 = .ok (.getfield 11, 3) := by decide +kernel
theorem dX10_send_19 : decode cX10_send 19 = .ok (.aload_n 0, 1) := by decide +kernel
theorem dX10_send_20 : decode cX10_send 20 = .ok (.getfield 33, 3) := by decide +kernel
theorem dX10_send_23 : decode cX10_send 23 = .ok (.aaload, 1) := by decide +kernel
theorem dX10_send_24 : decode cX10_send 24 = .ok (.astore 5, 2) := by decide +kernel
theorem dX10_send_26 : decode cX10_send 26 = .ok (.aload_n 0, 1) := by decide +kernel
theorem dX10_send_27 : decode cX10_send 27 = .ok (.dup, 1) := by decide +kernel
theorem dX10_send_28 : decode cX10_send 28 = .ok (.getfield 33, 3) := by decide +kernel
theorem dX10_send_31 : decode cX10_send 31 = .ok (.iconst 1, 1) := by decide +kernel
theorem dX10_send_32 : decode cX10_send 32 = .ok (.iadd, 1) := by decide +kernel
theorem dX10_send_33 : decode cX10_send 33 = .ok (.putfield 33, 3) := by decide +kernel
theorem dX10_send_36 : decode cX10_send 36 = .ok (.aload_n 0, 1) := by decide +kernel
theorem dX10_send_37 : decode cX10_send 37 = .ok (.dup, 1) := by decide +kernel
theorem dX10_send_38 : decode cX10_send 38 = .ok (.getfield 36, 3) := by decide +kernel
theorem dX10_send_41 : decode cX10_send 41 = .ok (.iconst 1, 1) := by decide +kernel
theorem dX10_send_42 : decode cX10_send 42 = .ok (.iadd, 1) := by decide +kernel
theorem dX10_send_43 : decode cX10_send 43 = .ok (.putfield 36, 3) := by decide +kernel
theorem dX10_send_46 : decode cX10_send 46 = .ok (.aload 5, 2) := by decide +kernel
theorem dX10_send_48 : decode cX10_send 48 = .ok (.iload_n 1, 1) := by decide +kernel
theorem dX10_send_49 : decode cX10_send 49 = .ok (.iload_n 2, 1) := by decide +kernel
theorem dX10_send_50 : decode cX10_send 50 = .ok (.iload_n 3, 1) := by decide +kernel
theorem dX10_send_51 : decode cX10_send 51 = .ok (.iload 4, 2) := by decide +kernel
theorem dX10_send_53 : decode cX10_send 53 = .ok (.invokevirtual 49, 3) := by decide +kernel
theorem dX10_send_56 : decode cX10_send 56 = .ok (.aload 5, 2) := by decide +kernel
theorem dX10_send_58 : decode cX10_send 58 = .ok (.areturn, 1) := by decide +kernel
theorem dX10_takeOut_0 : decode cX10_takeOut 0 = .ok (.iload_n 1, 1) := by decide +kernel
theorem dX10_takeOut_1 : decode cX10_takeOut 1 = .ok (.ifCond .lt 11, 3) := by decide +kernel
theorem dX10_takeOut_4 : decode cX10_takeOut 4 = .ok (.iload_n 1, 1) := by decide +kernel
theorem dX10_takeOut_5 : decode cX10_takeOut 5 = .ok (.aload_n 0, 1) := by decide +kernel
theorem dX10_takeOut_6 : decode cX10_takeOut 6 = .ok (.getfield 33, 3) := by decide +kernel
theorem dX10_takeOut_9 : decode cX10_takeOut 9 = .ok (.if_icmp .lt 4, 3) := by decide +kernel
theorem dX10_takeOut_12 : decode cX10_takeOut 12 = .ok (.return_, 1) := by decide +kernel
theorem dX10_takeOut_13 : decode cX10_takeOut 13 = .ok (.aload_n 0, 1) := by decide +kernel
theorem dX10_takeOut_14 : decode cX10_takeOut 14 = .ok (.getfield 11, 3) := by decide +kernel
theorem dX10_takeOut_17 : decode cX10_takeOut 17 = .ok (.iload_n 1, 1) := by decide +kernel
theorem dX10_takeOut_18 : decode cX10_takeOut 18 = .ok (.aaload, 1) := by decide +kernel
theorem dX10_takeOut_19 : decode cX10_takeOut 19 = .ok (.astore_n 2, 1) := by decide +kernel
theorem dX10_takeOut_20 : decode cX10_takeOut 20 = .ok (.iload_n 1, 1) := by decide +kernel
theorem dX10_takeOut_21 : decode cX10_takeOut 21 = .ok (.istore_n 3, 1) := by decide +kernel
theorem dX10_takeOut_22 : decode cX10_takeOut 22 = .ok (.iload_n 3, 1) := by decide +kernel
theorem dX10_takeOut_23 : decode cX10_takeOut 23 = .ok (.aload_n 0, 1) := by decide +kernel
theorem dX10_takeOut_24 : decode cX10_takeOut 24 = .ok (.getfield 33, 3) := by decide +kernel
theorem dX10_takeOut_27 : decode cX10_takeOut 27 = .ok (.iconst 1, 1) := by decide +kernel
theorem dX10_takeOut_28 : decode cX10_takeOut 28 = .ok (.isub, 1) := by decide +kernel
theorem dX10_takeOut_29 : decode cX10_takeOut 29 = .ok (.if_icmp .ge 23, 3) := by decide +kernel
theorem dX10_takeOut_32 : decode cX10_takeOut 32 = .ok (.aload_n 0, 1) := by decide +kernel
theorem dX10_takeOut_33 : decode cX10_takeOut 33 = .ok (.getfield 11, 3) := by decide +kernel
theorem dX10_takeOut_36 : decode cX10_takeOut 36 = .ok (.iload_n 3, 1) := by decide +kernel
theorem dX10_takeOut_37 : decode cX10_takeOut 37 = .ok (.aload_n 0, 1) := by decide +kernel
theorem dX10_takeOut_38 : decode cX10_takeOut 38 = .ok (.getfield 11, 3) := by decide +kernel
theorem dX10_takeOut_41 : decode cX10_takeOut 41 = .ok (.iload_n 3, 1) := by decide +kernel
theorem dX10_takeOut_42 : decode cX10_takeOut 42 = .ok (.iconst 1, 1) := by decide +kernel
theorem dX10_takeOut_43 : decode cX10_takeOut 43 = .ok (.iadd, 1) := by decide +kernel
theorem dX10_takeOut_44 : decode cX10_takeOut 44 = .ok (.aaload, 1) := by decide +kernel
theorem dX10_takeOut_45 : decode cX10_takeOut 45 = .ok (.aastore, 1) := by decide +kernel
theorem dX10_takeOut_46 : decode cX10_takeOut 46 = .ok (.iinc 3 1, 3) := by decide +kernel
theorem dX10_takeOut_49 : decode cX10_takeOut 49 = .ok (.goto (-27), 3) := by decide +kernel
theorem dX10_takeOut_52 : decode cX10_takeOut 52 = .ok (.aload_n 0, 1) := by decide +kernel
theorem dX10_takeOut_53 : decode cX10_takeOut 53 = .ok (.dup, 1) := by decide +kernel
theorem dX10_takeOut_54 : decode cX10_takeOut 54 = .ok (.getfield 33, 3) := by decide +kernel
theorem dX10_takeOut_57 : decode cX10_takeOut 57 = .ok (.iconst 1, 1) := by decide +kernel
theorem dX10_takeOut_58 : decode cX10_takeOut 58 = .ok (.isub, 1) := by decide +kernel
theorem dX10_takeOut_59 : decode cX10_takeOut 59 = .ok (.putfield 33, 3) := by decide +kernel
theorem dX10_takeOut_62 : decode cX10_takeOut 62 = .ok (.aload_n 0, 1) := by decide +kernel
theorem dX10_takeOut_63 : decode cX10_takeOut 63 = .ok (.getfield 11, 3) := by decide +kernel
theorem dX10_takeOut_66 : decode cX10_takeOut 66 = .ok (.aload_n 0, 1) := by decide +kernel
theorem dX10_takeOut_67 : decode cX10_takeOut 67 = .ok (.getfield 33, 3) := by decide +kernel
theorem dX10_takeOut_70 : decode cX10_takeOut 70 = .ok (.aload_n 0, 1) := by decide +kernel
theorem dX10_takeOut_71 : decode cX10_takeOut 71 = .ok (.getfield 22, 3) := by decide +kernel
theorem dX10_takeOut_74 : decode cX10_takeOut 74 = .ok (.aastore, 1) := by decide +kernel
theorem dX10_takeOut_75 : decode cX10_takeOut 75 = .ok (.aload_n 0, 1) := by decide +kernel
theorem dX10_takeOut_76 : decode cX10_takeOut 76 = .ok (.aload_n 2, 1) := by decide +kernel
theorem dX10_takeOut_77 : decode cX10_takeOut 77 = .ok (.putfield 22, 3) := by decide +kernel
theorem dX10_takeOut_80 : decode cX10_takeOut 80 = .ok (.return_, 1) := by decide +kernel
theorem dX10_isCut_0 : decode cX10_isCut 0 = .ok (.aload_n 0, 1) := by decide +kernel
theorem dX10_isCut_1 : decode cX10_isCut 1 = .ok (.getfield 17, 3) := by decide +kernel
theorem dX10_isCut_4 : decode cX10_isCut 4 = .ok (.iload_n 1, 1) := by decide +kernel
theorem dX10_isCut_5 : decode cX10_isCut 5 = .ok (.iconst 5, 1) := by decide +kernel
theorem dX10_isCut_6 : decode cX10_isCut 6 = .ok (.imul, 1) := by decide +kernel
theorem dX10_isCut_7 : decode cX10_isCut 7 = .ok (.iload_n 2, 1) := by decide +kernel
theorem dX10_isCut_8 : decode cX10_isCut 8 = .ok (.iadd, 1) := by decide +kernel
theorem dX10_isCut_9 : decode cX10_isCut 9 = .ok (.baload, 1) := by decide +kernel
theorem dX10_isCut_10 : decode cX10_isCut 10 = .ok (.ireturn, 1) := by decide +kernel
theorem dX10_switchCut_0 : decode cX10_switchCut 0 = .ok (.aload_n 0, 1) := by decide +kernel
theorem dX10_switchCut_1 : decode cX10_switchCut 1 = .ok (.iload_n 1, 1) := by decide +kernel
theorem dX10_switchCut_2 : decode cX10_switchCut 2 = .ok (.iload_n 2, 1) := by decide +kernel
theorem dX10_switchCut_3 : decode cX10_switchCut 3 = .ok (.invokevirtual 53, 3) := by decide +kernel
theorem dX10_switchCut_6 : decode cX10_switchCut 6 = .ok (.ifCond .ne 7, 3) := by decide +kernel
theorem dX10_switchCut_9 : decode cX10_switchCut 9 = .ok (.iconst 1, 1) := by decide +kernel
theorem dX10_switchCut_10 : decode cX10_switchCut 10 = .ok (.goto 4, 3) := by decide +kernel
theorem dX10_switchCut_13 : decode cX10_switchCut 13 = .ok (.iconst 0, 1) := by decide +kernel
theorem dX10_switchCut_14 : decode cX10_switchCut 14 = .ok (.istore_n 3, 1) := by decide +kernel
theorem dX10_switchCut_15 : decode cX10_switchCut 15 = .ok (.aload_n 0, 1) := by decide +kernel
theorem dX10_switchCut_16 : decode cX10_switchCut 16 = .ok (.getfield 17, 3) := by decide +kernel
theorem dX10_switchCut_19 : decode cX10_switchCut 19 = .ok (.iload_n 1, 1) := by decide +kernel
theorem dX10_switchCut_20 : decode cX10_switchCut 20 = .ok (.iconst 5, 1) := by decide +kernel
theorem dX10_switchCut_21 : decode cX10_switchCut 21 = .ok (.imul, 1) := by decide +kernel
theorem dX10_switchCut_22 : decode cX10_switchCut 22 = .ok (.iload_n 2, 1) := by decide +kernel
theorem dX10_switchCut_23 : decode cX10_switchCut 23 = .ok (.iadd, 1) := by decide +kernel
theorem dX10_switchCut_24 : decode cX10_switchCut 24 = .ok (.iload_n 3, 1) := by decide +kernel
theorem dX10_switchCut_25 : decode cX10_switchCut 25 = .ok (.bastore, 1) := by decide +kernel
theorem dX10_switchCut_26 : decode cX10_switchCut 26 = .ok (.aload_n 0, 1) := by decide +kernel
theorem dX10_switchCut_27 : decode cX10_switchCut 27 = .ok (.getfield 17, 3) := by decide +kernel
theorem dX10_switchCut_30 : decode cX10_switchCut 30 = .ok (.iload_n 2, 1) := by decide +kernel
theorem dX10_switchCut_31 : decode cX10_switchCut 31 = .ok (.iconst 5, 1) := by decide +kernel
theorem dX10_switchCut_32 : decode cX10_switchCut 32 = .ok (.imul, 1) := by decide +kernel
theorem dX10_switchCut_33 : decode cX10_switchCut 33 = .ok (.iload_n 1, 1) := by decide +kernel
theorem dX10_switchCut_34 : decode cX10_switchCut 34 = .ok (.iadd, 1) := by decide +kernel
theorem dX10_switchCut_35 : decode cX10_switchCut 35 = .ok (.iload_n 3, 1) := by decide +kernel
theorem dX10_switchCut_36 : decode cX10_switchCut 36 = .ok (.bastore, 1) := by decide +kernel
theorem dX10_switchCut_37 : decode cX10_switchCut 37 = .ok (.iload_n 3, 1) := by decide +kernel
theorem dX10_switchCut_38 : decode cX10_switchCut 38 = .ok (.ireturn, 1) := by decide +kernel
theorem dX11_init_0 : decode cX11_init 0 = .ok (.aload_n 0, 1) := by decide +kernel
theorem dX11_init_1 : decode cX11_init 1 = .ok (.invokespecial 1, 3) := by decide +kernel
theorem dX11_init_4 : decode cX11_init 4 = .ok (.aload_n 0, 1) := by decide +kernel
theorem dX11_init_5 : decode cX11_init 5 = .ok (.iconst 5, 1) := by decide +kernel
theorem dX11_init_6 : decode cX11_init 6 = .ok (.anewarray 9, 3) := by decide +kernel
theorem dX11_init_9 : decode cX11_init 9 = .ok (.putfield 11, 3) := by decide +kernel
theorem dX11_init_12 : decode cX11_init 12 = .ok (.aload_n 0, 1) := by decide +kernel
theorem dX11_init_13 : decode cX11_init 13 = .ok (.new 15, 3) := by decide +kernel
theorem dX11_init_16 : decode cX11_init 16 = .ok (.dup, 1) := by decide +kernel
theorem dX11_init_17 : decode cX11_init 17 = .ok (.invokespecial 17, 3) := by decide +kernel
theorem dX11_init_20 : decode cX11_init 20 = .ok (.putfield 18, 3) := by decide +kernel
theorem dX11_init_23 : decode cX11_init 23 = .ok (.aload_n 0, 1) := by decide +kernel
theorem dX11_init_24 : decode cX11_init 24 = .ok (.new 22, 3) := by decide +kernel
theorem dX11_init_27 : decode cX11_init 27 = .ok (.dup, 1) := by decide +kernel
theorem dX11_init_28 : decode cX11_init 28 = .ok (.aload_n 0, 1) := by decide +kernel
theorem dX11_init_29 : decode cX11_init 29 = .ok (.getfield 11, 3) := by decide +kernel
theorem dX11_init_32 : decode cX11_init 32 = .ok (.aload_n 0, 1) := by decide +kernel
theorem dX11_init_33 : decode cX11_init 33 = .ok (.getfield 18, 3) := by decide +kernel
theorem dX11_init_36 : decode cX11_init 36 = .ok (.invokespecial 24, 3) := by decide +kernel
theorem dX11_init_39 : decode cX11_init 39 = .ok (.putfield 27, 3) := by decide +kernel
theorem dX11_init_42 : decode cX11_init 42 = .ok (.aload_n 0, 1) := by decide +kernel
theorem dX11_init_43 : decode cX11_init 43 = .ok (.new 31, 3) := by decide +kernel
theorem dX11_init_46 : decode cX11_init 46 = .ok (.dup, 1) := by decide +kernel
theorem dX11_init_47 : decode cX11_init 47 = .ok (.aload_n 0, 1) := by decide +kernel
theorem dX11_init_48 : decode cX11_init 48 = .ok (.getfield 11, 3) := by decide +kernel
theorem dX11_init_51 : decode cX11_init 51 = .ok (.aload_n 0, 1) := by decide +kernel
theorem dX11_init_52 : decode cX11_init 52 = .ok (.getfield 18, 3) := by decide +kernel
theorem dX11_init_55 : decode cX11_init 55 = .ok (.invokespecial 33, 3) := by decide +kernel
theorem dX11_init_58 : decode cX11_init 58 = .ok (.putfield 34, 3) := by decide +kernel
theorem dX11_init_61 : decode cX11_init 61 = .ok (.aload_n 0, 1) := by decide +kernel
theorem dX11_init_62 : decode cX11_init 62 = .ok (.new 38, 3) := by decide +kernel
theorem dX11_init_65 : decode cX11_init 65 = .ok (.dup, 1) := by decide +kernel
theorem dX11_init_66 : decode cX11_init 66 = .ok (.invokespecial 40, 3) := by decide +kernel
theorem dX11_init_69 : decode cX11_init 69 = .ok (.putfield 41, 3) := by decide +kernel
theorem dX11_init_72 : decode cX11_init 72 = .ok (.iconst 0, 1) := by decide +kernel
theorem dX11_init_73 : decode cX11_init 73 = .ok (.istore_n 1, 1) := by decide +kernel
theorem dX11_init_74 : decode cX11_init 74 = .ok (.iload_n 1, 1) := by decide +kernel
theorem dX11_init_75 : decode cX11_init 75 = .ok (.iconst 5, 1) := by decide +kernel
theorem dX11_init_76 : decode cX11_init 76 = .ok (.if_icmp .ge 23, 3) := by decide +kernel
theorem dX11_init_79 : decode cX11_init 79 = .ok (.aload_n 0, 1) := by decide +kernel
theorem dX11_init_80 : decode cX11_init 80 = .ok (.getfield 11, 3) := by decide +kernel
theorem dX11_init_83 : decode cX11_init 83 = .ok (.iload_n 1, 1) := by decide +kernel
theorem dX11_init_84 : decode cX11_init 84 = .ok (.new 9, 3) := by decide +kernel
theorem dX11_init_87 : decode cX11_init 87 = .ok (.dup, 1) := by decide +kernel
theorem dX11_init_88 : decode cX11_init 88 = .ok (.iload_n 1, 1) := by decide +kernel
theorem dX11_init_89 : decode cX11_init 89 = .ok (.invokespecial 45, 3) := by decide +kernel
theorem dX11_init_92 : decode cX11_init 92 = .ok (.aastore, 1) := by decide +kernel
theorem dX11_init_93 : decode cX11_init 93 = .ok (.iinc 1 1, 3) := by decide +kernel
theorem dX11_init_96 : decode cX11_init 96 = .ok (.goto (-22), 3) := by decide +kernel
theorem dX11_init_99 : decode cX11_init 99 = .ok (.aload_n 0, 1) := by decide +kernel
theorem dX11_init_100 : decode cX11_init 100 = .ok (.iconst 3, 1) := by decide +kernel
theorem dX11_init_101 : decode cX11_init 101 = .ok (.invokevirtual 48, 3) := by decide +kernel
theorem dX11_init_104 : decode cX11_init 104 = .ok (.return_, 1) := by decide +kernel
theorem dX11_begin_0 : decode cX11_begin 0 = .ok (.iload_n 1, 1) := by decide +kernel
theorem dX11_begin_1 : decode cX11_begin 1 = .ok (.iconst 3, 1) := by decide +kernel
theorem dX11_begin_2 : decode cX11_begin 2 = .ok (.if_icmp .eq 18, 3) := by decide +kernel
theorem dX11_begin_5 : decode cX11_begin 5 = .ok (.iload_n 1, 1) := by decide +kernel
theorem dX11_begin_6 : decode cX11_begin 6 = .ok (.iconst 5, 1) := by decide +kernel
theorem dX11_begin_7 : decode cX11_begin 7 = .ok (.if_icmp .eq 13, 3) := by decide +kernel
theorem dX11_begin_10 : decode cX11_begin 10 = .ok (.new 51, 3) := by decide +kernel
theorem dX11_begin_13 : decode cX11_begin 13 = .ok (.dup, 1) := by decide +kernel
theorem dX11_begin_14 : decode cX11_begin 14 = .ok (.ldc 53, 2) := by decide +kernel
theorem dX11_begin_16 : decode cX11_begin 16 = .ok (.invokespecial 55, 3) := by decide +kernel
theorem dX11_begin_19 : decode cX11_begin 19 = .ok (.athrow, 1) := by decide +kernel
theorem dX11_begin_20 : decode cX11_begin 20 = .ok (.aload_n 0, 1) := by decide +kernel
theorem dX11_begin_21 : decode cX11_begin 21 = .ok (.getfield 18, 3) := by decide +kernel
theorem dX11_begin_24 : decode cX11_begin 24 = .ok (.getfield 58, 3) := by decide +kernel
theorem dX11_begin_27 : decode cX11_begin 27 = .ok (.istore_n 2, 1) := by decide +kernel
theorem dX11_begin_28 : decode cX11_begin 28 = .ok (.aload_n 0, 1) := by decide +kernel
theorem dX11_begin_29 : decode cX11_begin 29 = .ok (.iload_n 1, 1) := by decide +kernel
theorem dX11_begin_30 : decode cX11_begin 30 = .ok (.invokevirtual 48, 3) := by decide +kernel
theorem dX11_begin_33 : decode cX11_begin 33 = .ok (.iload_n 2, 1) := by decide +kernel
theorem dX11_begin_34 : decode cX11_begin 34 = .ok (.ireturn, 1) := by decide +kernel
theorem dX11_toggle_0 : decode cX11_toggle 0 = .ok (.aload_n 0, 1) := by decide +kernel
theorem dX11_toggle_1 : decode cX11_toggle 1 = .ok (.iload_n 1, 1) := by decide +kernel
theorem dX11_toggle_2 : decode cX11_toggle 2 = .ok (.invokevirtual 62, 3) := by decide +kernel
theorem dX11_toggle_5 : decode cX11_toggle 5 = .ok (.astore_n 2, 1) := by decide +kernel
theorem dX11_toggle_6 : decode cX11_toggle 6 = .ok (.aload_n 0, 1) := by decide +kernel
theorem dX11_toggle_7 : decode cX11_toggle 7 = .ok (.getfield 41, 3) := by decide +kernel
theorem dX11_toggle_10 : decode cX11_toggle 10 = .ok (.invokevirtual 66, 3) := by decide +kernel
theorem dX11_toggle_13 : decode cX11_toggle 13 = .ok (.aload_n 2, 1) := by decide +kernel
theorem dX11_toggle_14 : decode cX11_toggle 14 = .ok (.getfield 69, 3) := by decide +kernel
theorem dX11_toggle_17 : decode cX11_toggle 17 = .ok (.ifCond .eq 10, 3) := by decide +kernel
theorem dX11_toggle_20 : decode cX11_toggle 20 = .ok (.aload_n 2, 1) := by decide +kernel
theorem dX11_toggle_21 : decode cX11_toggle 21 = .ok (.invokevirtual 73, 3) := by decide +kernel
theorem dX11_toggle_24 : decode cX11_toggle 24 = .ok (.goto 14, 3) := by decide +kernel
theorem dX11_toggle_27 : decode cX11_toggle 27 = .ok (.aload_n 2, 1) := by decide +kernel
theorem dX11_toggle_28 : decode cX11_toggle 28 = .ok (.aload_n 0, 1) := by decide +kernel
theorem dX11_toggle_29 : decode cX11_toggle 29 = .ok (.getfield 27, 3) := by decide +kernel
theorem dX11_toggle_32 : decode cX11_toggle 32 = .ok (.getfield 76, 3) := by decide +kernel
theorem dX11_toggle_35 : decode cX11_toggle 35 = .ok (.invokevirtual 80, 3) := by decide +kernel
theorem dX11_toggle_38 : decode cX11_toggle 38 = .ok (.aload_n 2, 1) := by decide +kernel
theorem dX11_toggle_39 : decode cX11_toggle 39 = .ok (.getfield 69, 3) := by decide +kernel
theorem dX11_toggle_42 : decode cX11_toggle 42 = .ok (.ireturn, 1) := by decide +kernel
theorem dX11_cut_0 : decode cX11_cut 0 = .ok (.aload_n 0, 1) := by decide +kernel
theorem dX11_cut_1 : decode cX11_cut 1 = .ok (.iload_n 1, 1) := by decide +kernel
theorem dX11_cut_2 : decode cX11_cut 2 = .ok (.invokevirtual 62, 3) := by decide +kernel
theorem dX11_cut_5 : decode cX11_cut 5 = .ok (.pop, 1) := by decide +kernel
theorem dX11_cut_6 : decode cX11_cut 6 = .ok (.aload_n 0, 1) := by decide +kernel
theorem dX11_cut_7 : decode cX11_cut 7 = .ok (.iload_n 2, 1) := by decide +kernel
theorem dX11_cut_8 : decode cX11_cut 8 = .ok (.invokevirtual 62, 3) := by decide +kernel
theorem dX11_cut_11 : decode cX11_cut 11 = .ok (.pop, 1) := by decide +kernel
theorem dX11_cut_12 : decode cX11_cut 12 = .ok (.iload_n 1, 1) := by decide +kernel
theorem dX11_cut_13 : decode cX11_cut 13 = .ok (.iload_n 2, 1) := by decide +kernel
theorem dX11_cut_14 : decode cX11_cut 14 = .ok (.if_icmp .ne 13, 3) := by decide +kernel
theorem dX11_cut_17 : decode cX11_cut 17 = .ok (.new 51, 3) := by decide +kernel
theorem dX11_cut_20 : decode cX11_cut 20 = .ok (.dup, 1) := by decide +kernel
theorem dX11_cut_21 : decode cX11_cut 21 = .ok (.ldc 84, 2) := by decide +kernel
theorem dX11_cut_23 : decode cX11_cut 23 = .ok (.invokespecial 55, 3) := by decide +kernel
theorem dX11_cut_26 : decode cX11_cut 26 = .ok (.athrow, 1) := by decide +kernel
theorem dX11_cut_27 : decode cX11_cut 27 = .ok (.aload_n 0, 1) := by decide +kernel
theorem dX11_cut_28 : decode cX11_cut 28 = .ok (.getfield 41, 3) := by decide +kernel
theorem dX11_cut_31 : decode cX11_cut 31 = .ok (.invokevirtual 66, 3) := by decide +kernel
theorem dX11_cut_34 : decode cX11_cut 34 = .ok (.aload_n 0, 1) := by decide +kernel
theorem dX11_cut_35 : decode cX11_cut 35 = .ok (.getfield 18, 3) := by decide +kernel
theorem dX11_cut_38 : decode cX11_cut 38 = .ok (.iload_n 1, 1) := by decide +kernel
theorem dX11_cut_39 : decode cX11_cut 39 = .ok (.iload_n 2, 1) := by decide +kernel
theorem dX11_cut_40 : decode cX11_cut 40 = .ok (.invokevirtual 86, 3) := by decide +kernel
theorem dX11_cut_43 : decode cX11_cut 43 = .ok (.ireturn, 1) := by decide +kernel
theorem dX11_rate_0 : decode cX11_rate 0 = .ok (.aload_n 0, 1) := by decide +kernel
theorem dX11_rate_1 : decode cX11_rate 1 = .ok (.iload_n 1, 1) := by decide +kernel
theorem dX11_rate_2 : decode cX11_rate 2 = .ok (.invokevirtual 62, 3) := by decide +kernel
theorem dX11_rate_5 : decode cX11_rate 5 = .ok (.astore_n 3, 1) := by decide +kernel
theorem dX11_rate_6 : decode cX11_rate 6 = .ok (.iload_n 2, 1) := by decide +kernel
theorem dX11_rate_7 : decode cX11_rate 7 = .ok (.sipush 500, 3) := by decide +kernel
theorem dX11_rate_10 : decode cX11_rate 10 = .ok (.sipush 1500, 3) := by decide +kernel
theorem dX11_rate_13 : decode cX11_rate 13 = .ok (.invokestatic 90, 3) := by decide +kernel
theorem dX11_rate_16 : decode cX11_rate 16 = .ok (.aload_n 0, 1) := by decide +kernel
theorem dX11_rate_17 : decode cX11_rate 17 = .ok (.getfield 41, 3) := by decide +kernel
theorem dX11_rate_20 : decode cX11_rate 20 = .ok (.invokevirtual 66, 3) := by decide +kernel
theorem dX11_rate_23 : decode cX11_rate 23 = .ok (.aload_n 3, 1) := by decide +kernel
theorem dX11_rate_24 : decode cX11_rate 24 = .ok (.iload_n 2, 1) := by decide +kernel
theorem dX11_rate_25 : decode cX11_rate 25 = .ok (.i2f, 1) := by decide +kernel
theorem dX11_rate_26 : decode cX11_rate 26 = .ok (.ldc 94, 2) := by decide +kernel
theorem dX11_rate_28 : decode cX11_rate 28 = .ok (.fdiv, 1) := by decide +kernel
theorem dX11_rate_29 : decode cX11_rate 29 = .ok (.putfield 95, 3) := by decide +kernel
theorem dX11_rate_32 : decode cX11_rate 32 = .ok (.aload_n 3, 1) := by decide +kernel
theorem dX11_rate_33 : decode cX11_rate 33 = .ok (.getfield 98, 3) := by decide +kernel
theorem dX11_rate_36 : decode cX11_rate 36 = .ok (.freturn, 1) := by decide +kernel
theorem dX11_spans_0 : decode cX11_spans 0 = .ok (.iload_n 1, 1) := by decide +kernel
theorem dX11_spans_1 : decode cX11_spans 1 = .ok (.iconst 1, 1) := by decide +kernel
theorem dX11_spans_2 : decode cX11_spans 2 = .ok (.sipush 1000, 3) := by decide +kernel
theorem dX11_spans_5 : decode cX11_spans 5 = .ok (.invokestatic 90, 3) := by decide +kernel
theorem dX11_spans_8 : decode cX11_spans 8 = .ok (.iload_n 2, 1) := by decide +kernel
theorem dX11_spans_9 : decode cX11_spans 9 = .ok (.iconst 0, 1) := by decide +kernel
theorem dX11_spans_10 : decode cX11_spans 10 = .ok (.bipush 90, 2) := by decide +kernel
theorem dX11_spans_12 : decode cX11_spans 12 = .ok (.invokestatic 90, 3) := by decide +kernel
theorem dX11_spans_15 : decode cX11_spans 15 = .ok (.aload_n 0, 1) := by decide +kernel
theorem dX11_spans_16 : decode cX11_spans 16 = .ok (.getfield 41, 3) := by decide +kernel
theorem dX11_spans_19 : decode cX11_spans 19 = .ok (.invokevirtual 66, 3) := by decide +kernel
theorem dX11_spans_22 : decode cX11_spans 22 = .ok (.aload_n 0, 1) := by decide +kernel
theorem dX11_spans_23 : decode cX11_spans 23 = .ok (.getfield 27, 3) := by decide +kernel
theorem dX11_spans_26 : decode cX11_spans 26 = .ok (.iload_n 1, 1) := by decide +kernel
theorem dX11_spans_27 : decode cX11_spans 27 = .ok (.i2f, 1) := by decide +kernel
theorem dX11_spans_28 : decode cX11_spans 28 = .ok (.ldc 101, 2) := by decide +kernel
theorem dX11_spans_30 : decode cX11_spans 30 = .ok (.fdiv, 1) := by decide +kernel
theorem dX11_spans_31 : decode cX11_spans 31 = .ok (.putfield 76, 3) := by decide +kernel
theorem dX11_spans_34 : decode cX11_spans 34 = .ok (.aload_n 0, 1) := by decide +kernel
theorem dX11_spans_35 : decode cX11_spans 35 = .ok (.getfield 27, 3) := by decide +kernel
theorem dX11_spans_38 : decode cX11_spans 38 = .ok (.iload_n 2, 1) := by decide +kernel
theorem dX11_spans_39 : decode cX11_spans 39 = .ok (.i2f, 1) := by decide +kernel
theorem dX11_spans_40 : decode cX11_spans 40 = .ok (.ldc 102, 2) := by decide +kernel
theorem dX11_spans_42 : decode cX11_spans 42 = .ok (.fdiv, 1) := by decide +kernel
theorem dX11_spans_43 : decode cX11_spans 43 = .ok (.putfield 103, 3) := by decide +kernel
theorem dX11_spans_46 : decode cX11_spans 46 = .ok (.return_, 1) := by decide +kernel
theorem dX11_pass_0 : decode cX11_pass 0 = .ok (.iload_n 1, 1) := by decide +kernel
theorem dX11_pass_1 : decode cX11_pass 1 = .ok (.iconst 1, 1) := by decide +kernel
theorem dX11_pass_2 : decode cX11_pass 2 = .ok (.sipush 1000, 3) := by decide +kernel
theorem dX11_pass_5 : decode cX11_pass 5 = .ok (.invokestatic 90, 3) := by decide +kernel
theorem dX11_pass_8 : decode cX11_pass 8 = .ok (.aload_n 0, 1) := by decide +kernel
theorem dX11_pass_9 : decode cX11_pass 9 = .ok (.getfield 41, 3) := by decide +kernel
theorem dX11_pass_12 : decode cX11_pass 12 = .ok (.invokevirtual 66, 3) := by decide +kernel
theorem dX11_pass_15 : decode cX11_pass 15 = .ok (.iload_n 1, 1) := by decide +kernel
theorem dX11_pass_16 : decode cX11_pass 16 = .ok (.i2f, 1) := by decide +kernel
theorem dX11_pass_17 : decode cX11_pass 17 = .ok (.ldc 101, 2) := by decide +kernel
theorem dX11_pass_19 : decode cX11_pass 19 = .ok (.fdiv, 1) := by decide +kernel
theorem dX11_pass_20 : decode cX11_pass 20 = .ok (.fstore_n 2, 1) := by decide +kernel
theorem dX11_pass_21 : decode cX11_pass 21 = .ok (.aload_n 0, 1) := by decide +kernel
theorem dX11_pass_22 : decode cX11_pass 22 = .ok (.aload_n 0, 1) := by decide +kernel
theorem dX11_pass_23 : decode cX11_pass 23 = .ok (.getfield 106, 3) := by decide +kernel
theorem dX11_pass_26 : decode cX11_pass 26 = .ok (.fload_n 2, 1) := by decide +kernel
theorem dX11_pass_27 : decode cX11_pass 27 = .ok (.fadd, 1) := by decide +kernel
theorem dX11_pass_28 : decode cX11_pass 28 = .ok (.putfield 106, 3) := by decide +kernel
theorem dX11_pass_31 : decode cX11_pass 31 = .ok (.iconst 0, 1) := by decide +kernel
theorem dX11_pass_32 : decode cX11_pass 32 = .ok (.istore_n 3, 1) := by decide +kernel
theorem dX11_pass_33 : decode cX11_pass 33 = .ok (.iload_n 3, 1) := by decide +kernel
theorem dX11_pass_34 : decode cX11_pass 34 = .ok (.aload_n 0, 1) := by decide +kernel
theorem dX11_pass_35 : decode cX11_pass 35 = .ok (.getfield 18, 3) := by decide +kernel
theorem dX11_pass_38 : decode cX11_pass 38 = .ok (.getfield 58, 3) := by decide +kernel
theorem dX11_pass_41 : decode cX11_pass 41 = .ok (.if_icmp .ge 19, 3) := by decide +kernel
theorem dX11_pass_44 : decode cX11_pass 44 = .ok (.aload_n 0, 1) := by decide +kernel
theorem dX11_pass_45 : decode cX11_pass 45 = .ok (.getfield 11, 3) := by decide +kernel
theorem dX11_pass_48 : decode cX11_pass 48 = .ok (.iload_n 3, 1) := by decide +kernel
theorem dX11_pass_49 : decode cX11_pass 49 = .ok (.aaload, 1) := by decide +kernel
theorem dX11_pass_50 : decode cX11_pass 50 = .ok (.fload_n 2, 1) := by decide +kernel
theorem dX11_pass_51 : decode cX11_pass 51 = .ok (.invokevirtual 109, 3) := by decide +kernel
theorem dX11_pass_54 : decode cX11_pass 54 = .ok (.iinc 3 1, 3) := by decide +kernel
theorem dX11_pass_57 : decode cX11_pass 57 = .ok (.goto (-24), 3) := by decide +kernel
theorem dX11_pass_60 : decode cX11_pass 60 = .ok (.aload_n 0, 1) := by decide +kernel
theorem dX11_pass_61 : decode cX11_pass 61 = .ok (.getfield 106, 3) := by decide +kernel
theorem dX11_pass_64 : decode cX11_pass 64 = .ok (.freturn, 1) := by decide +kernel
theorem dX11_deliver_0 : decode cX11_deliver 0 = .ok (.aload_n 0, 1) := by decide +kernel
theorem dX11_deliver_1 : decode cX11_deliver 1 = .ok (.iload_n 1, 1) := by decide +kernel
theorem dX11_deliver_2 : decode cX11_deliver 2 = .ok (.invokevirtual 112, 3) := by decide +kernel
theorem dX11_deliver_5 : decode cX11_deliver 5 = .ok (.astore_n 2, 1) := by decide +kernel
theorem dX11_deliver_6 : decode cX11_deliver 6 = .ok (.aload_n 0, 1) := by decide +kernel
theorem dX11_deliver_7 : decode cX11_deliver 7 = .ok (.getfield 11, 3) := by decide +kernel
theorem dX11_deliver_10 : decode cX11_deliver 10 = .ok (.aload_n 2, 1) := by decide +kernel
theorem dX11_deliver_11 : decode cX11_deliver 11 = .ok (.getfield 116, 3) := by decide +kernel
theorem dX11_deliver_14 : decode cX11_deliver 14 = .ok (.aaload, 1) := by decide +kernel
theorem dX11_deliver_15 : decode cX11_deliver 15 = .ok (.getfield 69, 3) := by decide +kernel
theorem dX11_deliver_18 : decode cX11_deliver 18 = .ok (.ifCond .eq 21, 3) := by decide +kernel
theorem dX11_deliver_21 : decode cX11_deliver 21 = .ok (.aload_n 0, 1) := by decide +kernel
theorem dX11_deliver_22 : decode cX11_deliver 22 = .ok (.getfield 18, 3) := by decide +kernel
theorem dX11_deliver_25 : decode cX11_deliver 25 = .ok (.aload_n 2, 1) := by decide +kernel
theorem dX11_deliver_26 : decode cX11_deliver 26 = .ok (.getfield 121, 3) := by decide +kernel
theorem dX11_deliver_29 : decode cX11_deliver 29 = .ok (.aload_n 2, 1) := by decide +kernel
theorem dX11_deliver_30 : decode cX11_deliver 30 = .ok (.getfield 116, 3) := by decide +kernel
theorem dX11_deliver_33 : decode cX11_deliver 33 = .ok (.invokevirtual 124, 3) := by decide +kernel
theorem dX11_deliver_36 : decode cX11_deliver 36 = .ok (.ifCond .eq 13, 3) := by decide +kernel
theorem dX11_deliver_39 : decode cX11_deliver 39 = .ok (.new 127, 3) := by decide +kernel
theorem dX11_deliver_42 : decode cX11_deliver 42 = .ok (.dup, 1) := by decide +kernel
theorem dX11_deliver_43 : decode cX11_deliver 43 = .ok (.ldc 129, 2) := by decide +kernel
theorem dX11_deliver_45 : decode cX11_deliver 45 = .ok (.invokespecial 131, 3) := by decide +kernel
theorem dX11_deliver_48 : decode cX11_deliver 48 = .ok (.athrow, 1) := by decide +kernel
theorem dX11_deliver_49 : decode cX11_deliver 49 = .ok (.aload_n 0, 1) := by decide +kernel
theorem dX11_deliver_50 : decode cX11_deliver 50 = .ok (.getfield 41, 3) := by decide +kernel
theorem dX11_deliver_53 : decode cX11_deliver 53 = .ok (.invokevirtual 66, 3) := by decide +kernel
theorem dX11_deliver_56 : decode cX11_deliver 56 = .ok (.aload_n 0, 1) := by decide +kernel
theorem dX11_deliver_57 : decode cX11_deliver 57 = .ok (.getfield 18, 3) := by decide +kernel
theorem dX11_deliver_60 : decode cX11_deliver 60 = .ok (.iload_n 1, 1) := by decide +kernel
theorem dX11_deliver_61 : decode cX11_deliver 61 = .ok (.invokevirtual 132, 3) := by decide +kernel
theorem dX11_deliver_64 : decode cX11_deliver 64 = .ok (.aload_n 0, 1) := by decide +kernel
theorem dX11_deliver_65 : decode cX11_deliver 65 = .ok (.getfield 18, 3) := by decide +kernel
theorem dX11_deliver_68 : decode cX11_deliver 68 = .ok (.iconst 0, 1) := by decide +kernel
theorem dX11_deliver_69 : decode cX11_deliver 69 = .ok (.putfield 135, 3) := by decide +kernel
theorem dX11_deliver_72 : decode cX11_deliver 72 = .ok (.aload_n 2, 1) := by decide +kernel
theorem dX11_deliver_73 : decode cX11_deliver 73 = .ok (.getfield 138, 3) := by decide +kernel
theorem dX11_deliver_76 : decode cX11_deliver 76 = .ok (.iconst 3, 1) := by decide +kernel
theorem dX11_deliver_77 : decode cX11_deliver 77 = .ok (.if_icmp .gt 14, 3) := by decide +kernel
theorem dX11_deliver_80 : decode cX11_deliver 80 = .ok (.aload_n 0, 1) := by decide +kernel
theorem dX11_deliver_81 : decode cX11_deliver 81 = .ok (.getfield 27, 3) := by decide +kernel
theorem dX11_deliver_84 : decode cX11_deliver 84 = .ok (.aload_n 2, 1) := by decide +kernel
theorem dX11_deliver_85 : decode cX11_deliver 85 = .ok (.invokevirtual 141, 3) := by decide +kernel
theorem dX11_deliver_88 : decode cX11_deliver 88 = .ok (.goto 11, 3) := by decide +kernel
theorem dX11_deliver_91 : decode cX11_deliver 91 = .ok (.aload_n 0, 1) := by decide +kernel
theorem dX11_deliver_92 : decode cX11_deliver 92 = .ok (.getfield 34, 3) := by decide +kernel
theorem dX11_deliver_95 : decode cX11_deliver 95 = .ok (.aload_n 2, 1) := by decide +kernel
theorem dX11_deliver_96 : decode cX11_deliver 96 = .ok (.invokevirtual 145, 3) := by decide +kernel
theorem dX11_deliver_99 : decode cX11_deliver 99 = .ok (.iconst 0, 1) := by decide +kernel
theorem dX11_deliver_100 : decode cX11_deliver 100 = .ok (.istore_n 3, 1) := by decide +kernel
theorem dX11_deliver_101 : decode cX11_deliver 101 = .ok (.iload_n 3, 1) := by decide +kernel
theorem dX11_deliver_102 : decode cX11_deliver 102 = .ok (.aload_n 0, 1) := by decide +kernel
theorem dX11_deliver_103 : decode cX11_deliver 103 = .ok (.getfield 18, 3) := by decide +kernel
theorem dX11_deliver_106 : decode cX11_deliver 106 = .ok (.getfield 58, 3) := by decide +kernel
theorem dX11_deliver_109 : decode cX11_deliver 109 = .ok (.if_icmp .ge 22, 3) := by decide +kernel
theorem dX11_deliver_112 : decode cX11_deliver 112 = .ok (.aload_n 0, 1) := by decide +kernel
theorem dX11_deliver_113 : decode cX11_deliver 113 = .ok (.getfield 41, 3) := by decide +kernel
theorem dX11_deliver_116 : decode cX11_deliver 116 = .ok (.aload_n 0, 1) := by decide +kernel
theorem dX11_deliver_117 : decode cX11_deliver 117 = .ok (.getfield 11, 3) := by decide +kernel
theorem dX11_deliver_120 : decode cX11_deliver 120 = .ok (.iload_n 3, 1) := by decide +kernel
theorem dX11_deliver_121 : decode cX11_deliver 121 = .ok (.aaload, 1) := by decide +kernel
theorem dX11_deliver_122 : decode cX11_deliver 122 = .ok (.invokevirtual 146, 3) := by decide +kernel
theorem dX11_deliver_125 : decode cX11_deliver 125 = .ok (.iinc 3 1, 3) := by decide +kernel
theorem dX11_deliver_128 : decode cX11_deliver 128 = .ok (.goto (-27), 3) := by decide +kernel
theorem dX11_deliver_131 : decode cX11_deliver 131 = .ok (.aload_n 0, 1) := by decide +kernel
theorem dX11_deliver_132 : decode cX11_deliver 132 = .ok (.getfield 18, 3) := by decide +kernel
theorem dX11_deliver_135 : decode cX11_deliver 135 = .ok (.getfield 135, 3) := by decide +kernel
theorem dX11_deliver_138 : decode cX11_deliver 138 = .ok (.ireturn, 1) := by decide +kernel
theorem dX11_lose_0 : decode cX11_lose 0 = .ok (.aload_n 0, 1) := by decide +kernel
theorem dX11_lose_1 : decode cX11_lose 1 = .ok (.iload_n 1, 1) := by decide +kernel
theorem dX11_lose_2 : decode cX11_lose 2 = .ok (.invokevirtual 112, 3) := by decide +kernel
theorem dX11_lose_5 : decode cX11_lose 5 = .ok (.pop, 1) := by decide +kernel
theorem dX11_lose_6 : decode cX11_lose 6 = .ok (.aload_n 0, 1) := by decide +kernel
theorem dX11_lose_7 : decode cX11_lose 7 = .ok (.getfield 41, 3) := by decide +kernel
theorem dX11_lose_10 : decode cX11_lose 10 = .ok (.invokevirtual 66, 3) := by decide +kernel
theorem dX11_lose_13 : decode cX11_lose 13 = .ok (.aload_n 0, 1) := by decide +kernel
theorem dX11_lose_14 : decode cX11_lose 14 = .ok (.getfield 18, 3) := by decide +kernel
theorem dX11_lose_17 : decode cX11_lose 17 = .ok (.iload_n 1, 1) := by decide +kernel
theorem dX11_lose_18 : decode cX11_lose 18 = .ok (.invokevirtual 132, 3) := by decide +kernel
theorem dX11_lose_21 : decode cX11_lose 21 = .ok (.aload_n 0, 1) := by decide +kernel
theorem dX11_lose_22 : decode cX11_lose 22 = .ok (.getfield 18, 3) := by decide +kernel
theorem dX11_lose_25 : decode cX11_lose 25 = .ok (.getfield 150, 3) := by decide +kernel
theorem dX11_lose_28 : decode cX11_lose 28 = .ok (.ireturn, 1) := by decide +kernel
theorem dX11_twice_0 : decode cX11_twice 0 = .ok (.aload_n 0, 1) := by decide +kernel
theorem dX11_twice_1 : decode cX11_twice 1 = .ok (.iload_n 1, 1) := by decide +kernel
theorem dX11_twice_2 : decode cX11_twice 2 = .ok (.invokevirtual 112, 3) := by decide +kernel
theorem dX11_twice_5 : decode cX11_twice 5 = .ok (.astore_n 2, 1) := by decide +kernel
theorem dX11_twice_6 : decode cX11_twice 6 = .ok (.aload_n 0, 1) := by decide +kernel
theorem dX11_twice_7 : decode cX11_twice 7 = .ok (.getfield 41, 3) := by decide +kernel
theorem dX11_twice_10 : decode cX11_twice 10 = .ok (.invokevirtual 66, 3) := by decide +kernel
theorem dX11_twice_13 : decode cX11_twice 13 = .ok (.aload_n 0, 1) := by decide +kernel
theorem dX11_twice_14 : decode cX11_twice 14 = .ok (.getfield 18, 3) := by decide +kernel
theorem dX11_twice_17 : decode cX11_twice 17 = .ok (.aload_n 2, 1) := by decide +kernel
theorem dX11_twice_18 : decode cX11_twice 18 = .ok (.getfield 138, 3) := by decide +kernel
theorem dX11_twice_21 : decode cX11_twice 21 = .ok (.aload_n 2, 1) := by decide +kernel
theorem dX11_twice_22 : decode cX11_twice 22 = .ok (.getfield 121, 3) := by decide +kernel
theorem dX11_twice_25 : decode cX11_twice 25 = .ok (.aload_n 2, 1) := by decide +kernel
theorem dX11_twice_26 : decode cX11_twice 26 = .ok (.getfield 116, 3) := by decide +kernel
theorem dX11_twice_29 : decode cX11_twice 29 = .ok (.aload_n 2, 1) := by decide +kernel
theorem dX11_twice_30 : decode cX11_twice 30 = .ok (.getfield 153, 3) := by decide +kernel
theorem dX11_twice_33 : decode cX11_twice 33 = .ok (.invokevirtual 156, 3) := by decide +kernel
theorem dX11_twice_36 : decode cX11_twice 36 = .ok (.aload_n 2, 1) := by decide +kernel
theorem dX11_twice_37 : decode cX11_twice 37 = .ok (.invokevirtual 160, 3) := by decide +kernel
theorem dX11_twice_40 : decode cX11_twice 40 = .ok (.aload_n 0, 1) := by decide +kernel
theorem dX11_twice_41 : decode cX11_twice 41 = .ok (.getfield 18, 3) := by decide +kernel
theorem dX11_twice_44 : decode cX11_twice 44 = .ok (.getfield 150, 3) := by decide +kernel
theorem dX11_twice_47 : decode cX11_twice 47 = .ok (.ireturn, 1) := by decide +kernel
theorem dX11_stand_0 : decode cX11_stand 0 = .ok (.aload_n 0, 1) := by decide +kernel
theorem dX11_stand_1 : decode cX11_stand 1 = .ok (.iload_n 1, 1) := by decide +kernel
theorem dX11_stand_2 : decode cX11_stand 2 = .ok (.invokevirtual 62, 3) := by decide +kernel
theorem dX11_stand_5 : decode cX11_stand 5 = .ok (.astore_n 2, 1) := by decide +kernel
theorem dX11_stand_6 : decode cX11_stand 6 = .ok (.aload_n 2, 1) := by decide +kernel
theorem dX11_stand_7 : decode cX11_stand 7 = .ok (.getfield 69, 3) := by decide +kernel
theorem dX11_stand_10 : decode cX11_stand 10 = .ok (.ifCond .eq 18, 3) := by decide +kernel
theorem dX11_stand_13 : decode cX11_stand 13 = .ok (.aload_n 2, 1) := by decide +kernel
theorem dX11_stand_14 : decode cX11_stand 14 = .ok (.getfield 163, 3) := by decide +kernel
theorem dX11_stand_17 : decode cX11_stand 17 = .ok (.iconst 2, 1) := by decide +kernel
theorem dX11_stand_18 : decode cX11_stand 18 = .ok (.if_icmp .eq 10, 3) := by decide +kernel
theorem dX11_stand_21 : decode cX11_stand 21 = .ok (.aload_n 2, 1) := by decide +kernel
theorem dX11_stand_22 : decode cX11_stand 22 = .ok (.invokevirtual 166, 3) := by decide +kernel
theorem dX11_stand_25 : decode cX11_stand 25 = .ok (.ifCond .eq 13, 3) := by decide +kernel
theorem dX11_stand_28 : decode cX11_stand 28 = .ok (.new 127, 3) := by decide +kernel
theorem dX11_stand_31 : decode cX11_stand 31 = .ok (.dup, 1) := by decide +kernel
theorem dX11_stand_32 : decode cX11_stand 32 = .ok (.ldc 170, 2) := by decide +kernel
theorem dX11_stand_34 : decode cX11_stand 34 = .ok (.invokespecial 131, 3) := by decide +kernel
theorem dX11_stand_37 : decode cX11_stand 37 = .ok (.athrow, 1) := by decide +kernel
theorem dX11_stand_38 : decode cX11_stand 38 = .ok (.aload_n 0, 1) := by decide +kernel
theorem dX11_stand_39 : decode cX11_stand 39 = .ok (.getfield 41, 3) := by decide +kernel
theorem dX11_stand_42 : decode cX11_stand 42 = .ok (.invokevirtual 66, 3) := by decide +kernel
theorem dX11_stand_45 : decode cX11_stand 45 = .ok (.aload_n 0, 1) := by decide +kernel
theorem dX11_stand_46 : decode cX11_stand 46 = .ok (.getfield 27, 3) := by decide +kernel
theorem dX11_stand_49 : decode cX11_stand 49 = .ok (.aload_n 2, 1) := by decide +kernel
theorem dX11_stand_50 : decode cX11_stand 50 = .ok (.invokevirtual 172, 3) := by decide +kernel
theorem dX11_stand_53 : decode cX11_stand 53 = .ok (.aload_n 2, 1) := by decide +kernel
theorem dX11_stand_54 : decode cX11_stand 54 = .ok (.getfield 175, 3) := by decide +kernel
theorem dX11_stand_57 : decode cX11_stand 57 = .ok (.ireturn, 1) := by decide +kernel
theorem dX11_beat_0 : decode cX11_beat 0 = .ok (.aload_n 0, 1) := by decide +kernel
theorem dX11_beat_1 : decode cX11_beat 1 = .ok (.iload_n 1, 1) := by decide +kernel
theorem dX11_beat_2 : decode cX11_beat 2 = .ok (.invokevirtual 62, 3) := by decide +kernel
theorem dX11_beat_5 : decode cX11_beat 5 = .ok (.astore_n 2, 1) := by decide +kernel
theorem dX11_beat_6 : decode cX11_beat 6 = .ok (.aload_n 2, 1) := by decide +kernel
theorem dX11_beat_7 : decode cX11_beat 7 = .ok (.getfield 69, 3) := by decide +kernel
theorem dX11_beat_10 : decode cX11_beat 10 = .ok (.ifCond .eq 11, 3) := by decide +kernel
theorem dX11_beat_13 : decode cX11_beat 13 = .ok (.aload_n 2, 1) := by decide +kernel
theorem dX11_beat_14 : decode cX11_beat 14 = .ok (.getfield 163, 3) := by decide +kernel
theorem dX11_beat_17 : decode cX11_beat 17 = .ok (.iconst 2, 1) := by decide +kernel
theorem dX11_beat_18 : decode cX11_beat 18 = .ok (.if_icmp .eq 13, 3) := by decide +kernel
theorem dX11_beat_21 : decode cX11_beat 21 = .ok (.new 127, 3) := by decide +kernel
theorem dX11_beat_24 : decode cX11_beat 24 = .ok (.dup, 1) := by decide +kernel
theorem dX11_beat_25 : decode cX11_beat 25 = .ok (.ldc 176, 2) := by decide +kernel
theorem dX11_beat_27 : decode cX11_beat 27 = .ok (.invokespecial 131, 3) := by decide +kernel
theorem dX11_beat_30 : decode cX11_beat 30 = .ok (.athrow, 1) := by decide +kernel
theorem dX11_beat_31 : decode cX11_beat 31 = .ok (.aload_n 0, 1) := by decide +kernel
theorem dX11_beat_32 : decode cX11_beat 32 = .ok (.getfield 41, 3) := by decide +kernel
theorem dX11_beat_35 : decode cX11_beat 35 = .ok (.invokevirtual 66, 3) := by decide +kernel
theorem dX11_beat_38 : decode cX11_beat 38 = .ok (.aload_n 0, 1) := by decide +kernel
theorem dX11_beat_39 : decode cX11_beat 39 = .ok (.getfield 27, 3) := by decide +kernel
theorem dX11_beat_42 : decode cX11_beat 42 = .ok (.aload_n 2, 1) := by decide +kernel
theorem dX11_beat_43 : decode cX11_beat 43 = .ok (.invokevirtual 178, 3) := by decide +kernel
theorem dX11_beat_46 : decode cX11_beat 46 = .ok (.ireturn, 1) := by decide +kernel
theorem dX11_request_0 : decode cX11_request 0 = .ok (.aload_n 0, 1) := by decide +kernel
theorem dX11_request_1 : decode cX11_request 1 = .ok (.iload_n 1, 1) := by decide +kernel
theorem dX11_request_2 : decode cX11_request 2 = .ok (.invokevirtual 62, 3) := by decide +kernel
theorem dX11_request_5 : decode cX11_request 5 = .ok (.astore 5, 2) := by decide +kernel
theorem dX11_request_7 : decode cX11_request 7 = .ok (.iload_n 2, 1) := by decide +kernel
theorem dX11_request_8 : decode cX11_request 8 = .ok (.ifCond .lt 8, 3) := by decide +kernel
theorem dX11_request_11 : decode cX11_request 11 = .ok (.iload_n 2, 1) := by decide +kernel
theorem dX11_request_12 : decode cX11_request 12 = .ok (.iconst 4, 1) := by decide +kernel
theorem dX11_request_13 : decode cX11_request 13 = .ok (.if_icmp .lt 13, 3) := by decide +kernel
theorem dX11_request_16 : decode cX11_request 16 = .ok (.new 182, 3) := by decide +kernel
theorem dX11_request_19 : decode cX11_request 19 = .ok (.dup, 1) := by decide +kernel
theorem dX11_request_20 : decode cX11_request 20 = .ok (.ldc 184, 2) := by decide +kernel
theorem dX11_request_22 : decode cX11_request 22 = .ok (.invokespecial 186, 3) := by decide +kernel
theorem dX11_request_25 : decode cX11_request 25 = .ok (.athrow, 1) := by decide +kernel
theorem dX11_request_26 : decode cX11_request 26 = .ok (.iload_n 3, 1) := by decide +kernel
theorem dX11_request_27 : decode cX11_request 27 = .ok (.iconst 1, 1) := by decide +kernel
theorem dX11_request_28 : decode cX11_request 28 = .ok (.bipush 99, 2) := by decide +kernel
theorem dX11_request_30 : decode cX11_request 30 = .ok (.invokestatic 90, 3) := by decide +kernel
theorem dX11_request_33 : decode cX11_request 33 = .ok (.iload 4, 2) := by decide +kernel
theorem dX11_request_35 : decode cX11_request 35 = .ok (.iconst 0, 1) := by decide +kernel
theorem dX11_request_36 : decode cX11_request 36 = .ok (.sipush 999, 3) := by decide +kernel
theorem dX11_request_39 : decode cX11_request 39 = .ok (.invokestatic 90, 3) := by decide +kernel
theorem dX11_request_42 : decode cX11_request 42 = .ok (.aload_n 0, 1) := by decide +kernel
theorem dX11_request_43 : decode cX11_request 43 = .ok (.getfield 41, 3) := by decide +kernel
theorem dX11_request_46 : decode cX11_request 46 = .ok (.iload_n 2, 1) := by decide +kernel
theorem dX11_request_47 : decode cX11_request 47 = .ok (.iload_n 3, 1) := by decide +kernel
theorem dX11_request_48 : decode cX11_request 48 = .ok (.invokevirtual 187, 3) := by decide +kernel
theorem dX11_request_51 : decode cX11_request 51 = .ok (.astore 6, 2) := by decide +kernel
theorem dX11_request_53 : decode cX11_request 53 = .ok (.aload 6, 2) := by decide +kernel
theorem dX11_request_55 : decode cX11_request 55 = .ok (.ifnull 23, 3) := by decide +kernel
theorem dX11_request_58 : decode cX11_request 58 = .ok (.aload 6, 2) := by decide +kernel
theorem dX11_request_60 : decode cX11_request 60 = .ok (.getfield 191, 3) := by decide +kernel
theorem dX11_request_63 : decode cX11_request 63 = .ok (.iload 4, 2) := by decide +kernel
theorem dX11_request_65 : decode cX11_request 65 = .ok (.if_icmp .eq 13, 3) := by decide +kernel
theorem dX11_request_68 : decode cX11_request 68 = .ok (.new 51, 3) := by decide +kernel
theorem dX11_request_71 : decode cX11_request 71 = .ok (.dup, 1) := by decide +kernel
theorem dX11_request_72 : decode cX11_request 72 = .ok (.ldc 196, 2) := by decide +kernel
theorem dX11_request_74 : decode cX11_request 74 = .ok (.invokespecial 55, 3) := by decide +kernel
theorem dX11_request_77 : decode cX11_request 77 = .ok (.athrow, 1) := by decide +kernel
theorem dX11_request_78 : decode cX11_request 78 = .ok (.aload 5, 2) := by decide +kernel
theorem dX11_request_80 : decode cX11_request 80 = .ok (.getfield 69, 3) := by decide +kernel
theorem dX11_request_83 : decode cX11_request 83 = .ok (.ifCond .eq 38, 3) := by decide +kernel
theorem dX11_request_86 : decode cX11_request 86 = .ok (.aload 5, 2) := by decide +kernel
theorem dX11_request_88 : decode cX11_request 88 = .ok (.getfield 163, 3) := by decide +kernel
theorem dX11_request_91 : decode cX11_request 91 = .ok (.iconst 2, 1) := by decide +kernel
theorem dX11_request_92 : decode cX11_request 92 = .ok (.if_icmp .ne 29, 3) := by decide +kernel
theorem dX11_request_95 : decode cX11_request 95 = .ok (.aload 5, 2) := by decide +kernel
theorem dX11_request_97 : decode cX11_request 97 = .ok (.getfield 198, 3) := by decide +kernel
theorem dX11_request_100 : decode cX11_request 100 = .ok (.invokevirtual 202, 3) := by decide +kernel
theorem dX11_request_103 : decode cX11_request 103 = .ok (.ifCond .ne 18, 3) := by decide +kernel
theorem dX11_request_106 : decode cX11_request 106 = .ok (.aload 6, 2) := by decide +kernel
theorem dX11_request_108 : decode cX11_request 108 = .ok (.ifnonnull 23, 3) := by decide +kernel
theorem dX11_request_111 : decode cX11_request 111 = .ok (.aload_n 0, 1) := by decide +kernel
theorem dX11_request_112 : decode cX11_request 112 = .ok (.getfield 41, 3) := by decide +kernel
theorem dX11_request_115 : decode cX11_request 115 = .ok (.invokevirtual 207, 3) := by decide +kernel
theorem dX11_request_118 : decode cX11_request 118 = .ok (.ifCond .eq 13, 3) := by decide +kernel
theorem dX11_request_121 : decode cX11_request 121 = .ok (.new 127, 3) := by decide +kernel
theorem dX11_request_124 : decode cX11_request 124 = .ok (.dup, 1) := by decide +kernel
theorem dX11_request_125 : decode cX11_request 125 = .ok (.ldc 208, 2) := by decide +kernel
theorem dX11_request_127 : decode cX11_request 127 = .ok (.invokespecial 131, 3) := by decide +kernel
theorem dX11_request_130 : decode cX11_request 130 = .ok (.athrow, 1) := by decide +kernel
theorem dX11_request_131 : decode cX11_request 131 = .ok (.aload_n 0, 1) := by decide +kernel
theorem dX11_request_132 : decode cX11_request 132 = .ok (.getfield 41, 3) := by decide +kernel
theorem dX11_request_135 : decode cX11_request 135 = .ok (.invokevirtual 66, 3) := by decide +kernel
theorem dX11_request_138 : decode cX11_request 138 = .ok (.aload 6, 2) := by decide +kernel
theorem dX11_request_140 : decode cX11_request 140 = .ok (.ifnonnull 14, 3) := by decide +kernel
theorem dX11_request_143 : decode cX11_request 143 = .ok (.aload_n 0, 1) := by decide +kernel
theorem dX11_request_144 : decode cX11_request 144 = .ok (.getfield 41, 3) := by decide +kernel
theorem dX11_request_147 : decode cX11_request 147 = .ok (.iload_n 2, 1) := by decide +kernel
theorem dX11_request_148 : decode cX11_request 148 = .ok (.iload_n 3, 1) := by decide +kernel
theorem dX11_request_149 : decode cX11_request 149 = .ok (.iload 4, 2) := by decide +kernel
theorem dX11_request_151 : decode cX11_request 151 = .ok (.invokevirtual 210, 3) := by decide +kernel
theorem dX11_request_154 : decode cX11_request 154 = .ok (.aload 5, 2) := by decide +kernel
theorem dX11_request_156 : decode cX11_request 156 = .ok (.getfield 198, 3) := by decide +kernel
theorem dX11_request_159 : decode cX11_request 159 = .ok (.iload_n 2, 1) := by decide +kernel
theorem dX11_request_160 : decode cX11_request 160 = .ok (.iload_n 3, 1) := by decide +kernel
theorem dX11_request_161 : decode cX11_request 161 = .ok (.invokevirtual 213, 3) := by decide +kernel
theorem dX11_request_164 : decode cX11_request 164 = .ok (.ifCond .ne 27, 3) := by decide +kernel
theorem dX11_request_167 : decode cX11_request 167 = .ok (.aload 5, 2) := by decide +kernel
theorem dX11_request_169 : decode cX11_request 169 = .ok (.getfield 198, 3) := by decide +kernel
theorem dX11_request_172 : decode cX11_request 172 = .ok (.new 216, 3) := by decide +kernel
theorem dX11_request_175 : decode cX11_request 175 = .ok (.dup, 1) := by decide +kernel
theorem dX11_request_176 : decode cX11_request 176 = .ok (.aload 5, 2) := by decide +kernel
theorem dX11_request_178 : decode cX11_request 178 = .ok (.getfield 175, 3) := by decide +kernel
theorem dX11_request_181 : decode cX11_request 181 = .ok (.iload_n 2, 1) := by decide +kernel
theorem dX11_request_182 : decode cX11_request 182 = .ok (.iload_n 3, 1) := by decide +kernel
theorem dX11_request_183 : decode cX11_request 183 = .ok (.iload 4, 2) := by decide +kernel
theorem dX11_request_185 : decode cX11_request 185 = .ok (.invokespecial 218, 3) := by decide +kernel
theorem dX11_request_188 : decode cX11_request 188 = .ok (.invokevirtual 221, 3) := by decide +kernel
theorem dX11_request_191 : decode cX11_request 191 = .ok (.aload 5, 2) := by decide +kernel
theorem dX11_request_193 : decode cX11_request 193 = .ok (.getfield 198, 3) := by decide +kernel
theorem dX11_request_196 : decode cX11_request 196 = .ok (.iload_n 2, 1) := by decide +kernel
theorem dX11_request_197 : decode cX11_request 197 = .ok (.iload_n 3, 1) := by decide +kernel
theorem dX11_request_198 : decode cX11_request 198 = .ok (.invokevirtual 225, 3) := by decide +kernel
theorem dX11_request_201 : decode cX11_request 201 = .ok (.ireturn, 1) := by decide +kernel
theorem dX11_read_0 : decode cX11_read 0 = .ok (.aload_n 0, 1) := by decide +kernel
theorem dX11_read_1 : decode cX11_read 1 = .ok (.iload_n 1, 1) := by decide +kernel
theorem dX11_read_2 : decode cX11_read 2 = .ok (.invokevirtual 62, 3) := by decide +kernel
theorem dX11_read_5 : decode cX11_read 5 = .ok (.astore_n 2, 1) := by decide +kernel
theorem dX11_read_6 : decode cX11_read 6 = .ok (.aload_n 2, 1) := by decide +kernel
theorem dX11_read_7 : decode cX11_read 7 = .ok (.getfield 69, 3) := by decide +kernel
theorem dX11_read_10 : decode cX11_read 10 = .ok (.ifCond .eq 27, 3) := by decide +kernel
theorem dX11_read_13 : decode cX11_read 13 = .ok (.aload_n 2, 1) := by decide +kernel
theorem dX11_read_14 : decode cX11_read 14 = .ok (.invokevirtual 229, 3) := by decide +kernel
theorem dX11_read_17 : decode cX11_read 17 = .ok (.ifCond .eq 20, 3) := by decide +kernel
theorem dX11_read_20 : decode cX11_read 20 = .ok (.aload_n 2, 1) := by decide +kernel
theorem dX11_read_21 : decode cX11_read 21 = .ok (.invokevirtual 232, 3) := by decide +kernel
theorem dX11_read_24 : decode cX11_read 24 = .ok (.ifCond .eq 13, 3) := by decide +kernel
theorem dX11_read_27 : decode cX11_read 27 = .ok (.aload_n 0, 1) := by decide +kernel
theorem dX11_read_28 : decode cX11_read 28 = .ok (.getfield 41, 3) := by decide +kernel
theorem dX11_read_31 : decode cX11_read 31 = .ok (.invokevirtual 207, 3) := by decide +kernel
theorem dX11_read_34 : decode cX11_read 34 = .ok (.ifCond .eq 13, 3) := by decide +kernel
theorem dX11_read_37 : decode cX11_read 37 = .ok (.new 127, 3) := by decide +kernel
theorem dX11_read_40 : decode cX11_read 40 = .ok (.dup, 1) := by decide +kernel
theorem dX11_read_41 : decode cX11_read 41 = .ok (.ldc 235, 2) := by decide +kernel
theorem dX11_read_43 : decode cX11_read 43 = .ok (.invokespecial 131, 3) := by decide +kernel
theorem dX11_read_46 : decode cX11_read 46 = .ok (.athrow, 1) := by decide +kernel
theorem dX11_read_47 : decode cX11_read 47 = .ok (.aload_n 0, 1) := by decide +kernel
theorem dX11_read_48 : decode cX11_read 48 = .ok (.getfield 41, 3) := by decide +kernel
theorem dX11_read_51 : decode cX11_read 51 = .ok (.invokevirtual 66, 3) := by decide +kernel
theorem dX11_read_54 : decode cX11_read 54 = .ok (.aload_n 2, 1) := by decide +kernel
theorem dX11_read_55 : decode cX11_read 55 = .ok (.getfield 198, 3) := by decide +kernel
theorem dX11_read_58 : decode cX11_read 58 = .ok (.aload_n 2, 1) := by decide +kernel
theorem dX11_read_59 : decode cX11_read 59 = .ok (.getfield 237, 3) := by decide +kernel
theorem dX11_read_62 : decode cX11_read 62 = .ok (.invokevirtual 240, 3) := by decide +kernel
theorem dX11_read_65 : decode cX11_read 65 = .ok (.istore_n 3, 1) := by decide +kernel
theorem dX11_read_66 : decode cX11_read 66 = .ok (.aload_n 0, 1) := by decide +kernel
theorem dX11_read_67 : decode cX11_read 67 = .ok (.getfield 41, 3) := by decide +kernel
theorem dX11_read_70 : decode cX11_read 70 = .ok (.iload_n 3, 1) := by decide +kernel
theorem dX11_read_71 : decode cX11_read 71 = .ok (.invokevirtual 244, 3) := by decide +kernel
theorem dX11_read_74 : decode cX11_read 74 = .ok (.iload_n 3, 1) := by decide +kernel
theorem dX11_read_75 : decode cX11_read 75 = .ok (.ireturn, 1) := by decide +kernel
theorem dX11_propose_0 : decode cX11_propose 0 = .ok (.aload_n 0, 1) := by decide +kernel
theorem dX11_propose_1 : decode cX11_propose 1 = .ok (.iload_n 1, 1) := by decide +kernel
theorem dX11_propose_2 : decode cX11_propose 2 = .ok (.invokevirtual 62, 3) := by decide +kernel
theorem dX11_propose_5 : decode cX11_propose 5 = .ok (.astore 4, 2) := by decide +kernel
theorem dX11_propose_7 : decode cX11_propose 7 = .ok (.aload_n 0, 1) := by decide +kernel
theorem dX11_propose_8 : decode cX11_propose 8 = .ok (.aload 4, 2) := by decide +kernel
theorem dX11_propose_10 : decode cX11_propose 10 = .ok (.iload_n 2, 1) := by decide +kernel
theorem dX11_propose_11 : decode cX11_propose 11 = .ok (.invokevirtual 247, 3) := by decide +kernel
theorem dX11_propose_14 : decode cX11_propose 14 = .ok (.pop, 1) := by decide +kernel
theorem dX11_propose_15 : decode cX11_propose 15 = .ok (.iload_n 3, 1) := by decide +kernel
theorem dX11_propose_16 : decode cX11_propose 16 = .ok (.iconst 0, 1) := by decide +kernel
theorem dX11_propose_17 : decode cX11_propose 17 = .ok (.sipush 999, 3) := by decide +kernel
theorem dX11_propose_20 : decode cX11_propose 20 = .ok (.invokestatic 90, 3) := by decide +kernel
theorem dX11_propose_23 : decode cX11_propose 23 = .ok (.aload 4, 2) := by decide +kernel
theorem dX11_propose_25 : decode cX11_propose 25 = .ok (.getfield 69, 3) := by decide +kernel
theorem dX11_propose_28 : decode cX11_propose 28 = .ok (.ifCond .ne 13, 3) := by decide +kernel
theorem dX11_propose_31 : decode cX11_propose 31 = .ok (.new 127, 3) := by decide +kernel
theorem dX11_propose_34 : decode cX11_propose 34 = .ok (.dup, 1) := by decide +kernel
theorem dX11_propose_35 : decode cX11_propose 35 = .ok (.ldc 251, 2) := by decide +kernel
theorem dX11_propose_37 : decode cX11_propose 37 = .ok (.invokespecial 131, 3) := by decide +kernel
theorem dX11_propose_40 : decode cX11_propose 40 = .ok (.athrow, 1) := by decide +kernel
theorem dX11_propose_41 : decode cX11_propose 41 = .ok (.aload_n 0, 1) := by decide +kernel
theorem dX11_propose_42 : decode cX11_propose 42 = .ok (.getfield 41, 3) := by decide +kernel
theorem dX11_propose_45 : decode cX11_propose 45 = .ok (.invokevirtual 66, 3) := by decide +kernel
theorem dX11_propose_48 : decode cX11_propose 48 = .ok (.aload_n 0, 1) := by decide +kernel
theorem dX11_propose_49 : decode cX11_propose 49 = .ok (.getfield 34, 3) := by decide +kernel
theorem dX11_propose_52 : decode cX11_propose 52 = .ok (.aload 4, 2) := by decide +kernel
theorem dX11_propose_54 : decode cX11_propose 54 = .ok (.iload_n 2, 1) := by decide +kernel
theorem dX11_propose_55 : decode cX11_propose 55 = .ok (.iload_n 3, 1) := by decide +kernel
theorem dX11_propose_56 : decode cX11_propose 56 = .ok (.invokevirtual 253, 3) := by decide +kernel
theorem dX11_propose_59 : decode cX11_propose 59 = .ok (.ireturn, 1) := by decide +kernel
theorem dX11_steps_0 : decode cX11_steps 0 = .ok (.aload_n 0, 1) := by decide +kernel
theorem dX11_steps_1 : decode cX11_steps 1 = .ok (.getfield 41, 3) := by decide +kernel
theorem dX11_steps_4 : decode cX11_steps 4 = .ok (.getfield 257, 3) := by decide +kernel
theorem dX11_steps_7 : decode cX11_steps 7 = .ok (.ireturn, 1) := by decide +kernel
theorem dX11_messages_0 : decode cX11_messages 0 = .ok (.aload_n 0, 1) := by decide +kernel
theorem dX11_messages_1 : decode cX11_messages 1 = .ok (.getfield 18, 3) := by decide +kernel
theorem dX11_messages_4 : decode cX11_messages 4 = .ok (.getfield 150, 3) := by decide +kernel
theorem dX11_messages_7 : decode cX11_messages 7 = .ok (.ireturn, 1) := by decide +kernel
theorem dX11_message_0 : decode cX11_message 0 = .ok (.aload_n 0, 1) := by decide +kernel
theorem dX11_message_1 : decode cX11_message 1 = .ok (.iload_n 1, 1) := by decide +kernel
theorem dX11_message_2 : decode cX11_message 2 = .ok (.invokevirtual 112, 3) := by decide +kernel
theorem dX11_message_5 : decode cX11_message 5 = .ok (.astore_n 3, 1) := by decide +kernel
theorem dX11_message_6 : decode cX11_message 6 = .ok (.iload_n 2, 1) := by decide +kernel
theorem dX11_message_7 : decode cX11_message 7 = .ok (.tableswitch 58 0 4 #[33, 38, 43, 48, 53], 33) := by decide +kernel
theorem dX11_message_40 : decode cX11_message 40 = .ok (.aload_n 3, 1) := by decide +kernel
theorem dX11_message_41 : decode cX11_message 41 = .ok (.getfield 138, 3) := by decide +kernel
theorem dX11_message_44 : decode cX11_message 44 = .ok (.ireturn, 1) := by decide +kernel
theorem dX11_message_45 : decode cX11_message 45 = .ok (.aload_n 3, 1) := by decide +kernel
theorem dX11_message_46 : decode cX11_message 46 = .ok (.getfield 121, 3) := by decide +kernel
theorem dX11_message_49 : decode cX11_message 49 = .ok (.ireturn, 1) := by decide +kernel
theorem dX11_message_50 : decode cX11_message 50 = .ok (.aload_n 3, 1) := by decide +kernel
theorem dX11_message_51 : decode cX11_message 51 = .ok (.getfield 116, 3) := by decide +kernel
theorem dX11_message_54 : decode cX11_message 54 = .ok (.ireturn, 1) := by decide +kernel
theorem dX11_message_55 : decode cX11_message 55 = .ok (.aload_n 3, 1) := by decide +kernel
theorem dX11_message_56 : decode cX11_message 56 = .ok (.getfield 153, 3) := by decide +kernel
theorem dX11_message_59 : decode cX11_message 59 = .ok (.ireturn, 1) := by decide +kernel
theorem dX11_message_60 : decode cX11_message 60 = .ok (.aload_n 3, 1) := by decide +kernel
theorem dX11_message_61 : decode cX11_message 61 = .ok (.getfield 260, 3) := by decide +kernel
theorem dX11_message_64 : decode cX11_message 64 = .ok (.ireturn, 1) := by decide +kernel
theorem dX11_message_65 : decode cX11_message 65 = .ok (.new 51, 3) := by decide +kernel
theorem dX11_message_68 : decode cX11_message 68 = .ok (.dup, 1) := by decide +kernel
theorem dX11_message_69 : decode cX11_message 69 = .ok (.ldc_w 263, 3) := by decide +kernel
theorem dX11_message_72 : decode cX11_message 72 = .ok (.invokespecial 55, 3) := by decide +kernel
theorem dX11_message_75 : decode cX11_message 75 = .ok (.athrow, 1) := by decide +kernel
theorem dX11_of_0 : decode cX11_of 0 = .ok (.aload_n 0, 1) := by decide +kernel
theorem dX11_of_1 : decode cX11_of 1 = .ok (.iload_n 1, 1) := by decide +kernel
theorem dX11_of_2 : decode cX11_of 2 = .ok (.invokevirtual 62, 3) := by decide +kernel
theorem dX11_of_5 : decode cX11_of 5 = .ok (.astore_n 3, 1) := by decide +kernel
theorem dX11_of_6 : decode cX11_of 6 = .ok (.iload_n 2, 1) := by decide +kernel
theorem dX11_of_7 : decode cX11_of 7 = .ok (.tableswitch 114 0 7 #[45, 50, 55, 60, 68, 73, 85, 101], 45) := by decide +kernel
theorem dX11_of_52 : decode cX11_of 52 = .ok (.aload_n 3, 1) := by decide +kernel
theorem dX11_of_53 : decode cX11_of 53 = .ok (.getfield 163, 3) := by decide +kernel
theorem dX11_of_56 : decode cX11_of 56 = .ok (.ireturn, 1) := by decide +kernel
theorem dX11_of_57 : decode cX11_of 57 = .ok (.aload_n 3, 1) := by decide +kernel
theorem dX11_of_58 : decode cX11_of 58 = .ok (.getfield 175, 3) := by decide +kernel
theorem dX11_of_61 : decode cX11_of 61 = .ok (.ireturn, 1) := by decide +kernel
theorem dX11_of_62 : decode cX11_of 62 = .ok (.aload_n 3, 1) := by decide +kernel
theorem dX11_of_63 : decode cX11_of 63 = .ok (.getfield 265, 3) := by decide +kernel
theorem dX11_of_66 : decode cX11_of 66 = .ok (.ireturn, 1) := by decide +kernel
theorem dX11_of_67 : decode cX11_of 67 = .ok (.aload_n 3, 1) := by decide +kernel
theorem dX11_of_68 : decode cX11_of 68 = .ok (.getfield 198, 3) := by decide +kernel
theorem dX11_of_71 : decode cX11_of 71 = .ok (.getfield 268, 3) := by decide +kernel
theorem dX11_of_74 : decode cX11_of 74 = .ok (.ireturn, 1) := by decide +kernel
theorem dX11_of_75 : decode cX11_of 75 = .ok (.aload_n 3, 1) := by decide +kernel
theorem dX11_of_76 : decode cX11_of 76 = .ok (.getfield 237, 3) := by decide +kernel
theorem dX11_of_79 : decode cX11_of 79 = .ok (.ireturn, 1) := by decide +kernel
theorem dX11_of_80 : decode cX11_of 80 = .ok (.aload_n 3, 1) := by decide +kernel
theorem dX11_of_81 : decode cX11_of 81 = .ok (.getfield 198, 3) := by decide +kernel
theorem dX11_of_84 : decode cX11_of 84 = .ok (.aload_n 3, 1) := by decide +kernel
theorem dX11_of_85 : decode cX11_of 85 = .ok (.getfield 237, 3) := by decide +kernel
theorem dX11_of_88 : decode cX11_of 88 = .ok (.invokevirtual 240, 3) := by decide +kernel
theorem dX11_of_91 : decode cX11_of 91 = .ok (.ireturn, 1) := by decide +kernel
theorem dX11_of_92 : decode cX11_of 92 = .ok (.aload_n 3, 1) := by decide +kernel
theorem dX11_of_93 : decode cX11_of 93 = .ok (.invokevirtual 166, 3) := by decide +kernel
theorem dX11_of_96 : decode cX11_of 96 = .ok (.ifCond .eq 10, 3) := by decide +kernel
theorem dX11_of_99 : decode cX11_of 99 = .ok (.aload_n 3, 1) := by decide +kernel
theorem dX11_of_100 : decode cX11_of 100 = .ok (.getfield 269, 3) := by decide +kernel
theorem dX11_of_103 : decode cX11_of 103 = .ok (.goto 4, 3) := by decide +kernel
theorem dX11_of_106 : decode cX11_of 106 = .ok (.iconst (-1), 1) := by decide +kernel
theorem dX11_of_107 : decode cX11_of 107 = .ok (.ireturn, 1) := by decide +kernel
theorem dX11_of_108 : decode cX11_of 108 = .ok (.aload_n 3, 1) := by decide +kernel
theorem dX11_of_109 : decode cX11_of 109 = .ok (.getfield 69, 3) := by decide +kernel
theorem dX11_of_112 : decode cX11_of 112 = .ok (.ifCond .eq 7, 3) := by decide +kernel
theorem dX11_of_115 : decode cX11_of 115 = .ok (.iconst 1, 1) := by decide +kernel
theorem dX11_of_116 : decode cX11_of 116 = .ok (.goto 4, 3) := by decide +kernel
theorem dX11_of_119 : decode cX11_of 119 = .ok (.iconst 0, 1) := by decide +kernel
theorem dX11_of_120 : decode cX11_of 120 = .ok (.ireturn, 1) := by decide +kernel
theorem dX11_of_121 : decode cX11_of 121 = .ok (.new 51, 3) := by decide +kernel
theorem dX11_of_124 : decode cX11_of 124 = .ok (.dup, 1) := by decide +kernel
theorem dX11_of_125 : decode cX11_of 125 = .ok (.ldc_w 263, 3) := by decide +kernel
theorem dX11_of_128 : decode cX11_of 128 = .ok (.invokespecial 55, 3) := by decide +kernel
theorem dX11_of_131 : decode cX11_of 131 = .ok (.athrow, 1) := by decide +kernel
theorem dX11_entry_0 : decode cX11_entry 0 = .ok (.aload_n 0, 1) := by decide +kernel
theorem dX11_entry_1 : decode cX11_entry 1 = .ok (.iload_n 1, 1) := by decide +kernel
theorem dX11_entry_2 : decode cX11_entry 2 = .ok (.invokevirtual 62, 3) := by decide +kernel
theorem dX11_entry_5 : decode cX11_entry 5 = .ok (.getfield 198, 3) := by decide +kernel
theorem dX11_entry_8 : decode cX11_entry 8 = .ok (.iload_n 2, 1) := by decide +kernel
theorem dX11_entry_9 : decode cX11_entry 9 = .ok (.invokevirtual 272, 3) := by decide +kernel
theorem dX11_entry_12 : decode cX11_entry 12 = .ok (.astore 4, 2) := by decide +kernel
theorem dX11_entry_14 : decode cX11_entry 14 = .ok (.aload 4, 2) := by decide +kernel
theorem dX11_entry_16 : decode cX11_entry 16 = .ok (.ifnonnull 14, 3) := by decide +kernel
theorem dX11_entry_19 : decode cX11_entry 19 = .ok (.new 182, 3) := by decide +kernel
theorem dX11_entry_22 : decode cX11_entry 22 = .ok (.dup, 1) := by decide +kernel
theorem dX11_entry_23 : decode cX11_entry 23 = .ok (.ldc_w 276, 3) := by decide +kernel
theorem dX11_entry_26 : decode cX11_entry 26 = .ok (.invokespecial 186, 3) := by decide +kernel
theorem dX11_entry_29 : decode cX11_entry 29 = .ok (.athrow, 1) := by decide +kernel
theorem dX11_entry_30 : decode cX11_entry 30 = .ok (.iload_n 3, 1) := by decide +kernel
theorem dX11_entry_31 : decode cX11_entry 31 = .ok (.tableswitch 53 0 3 #[29, 35, 41, 47], 29) := by decide +kernel
theorem dX11_entry_60 : decode cX11_entry 60 = .ok (.aload 4, 2) := by decide +kernel
theorem dX11_entry_62 : decode cX11_entry 62 = .ok (.getfield 278, 3) := by decide +kernel
theorem dX11_entry_65 : decode cX11_entry 65 = .ok (.ireturn, 1) := by decide +kernel
theorem dX11_entry_66 : decode cX11_entry 66 = .ok (.aload 4, 2) := by decide +kernel
theorem dX11_entry_68 : decode cX11_entry 68 = .ok (.getfield 279, 3) := by decide +kernel
theorem dX11_entry_71 : decode cX11_entry 71 = .ok (.ireturn, 1) := by decide +kernel
theorem dX11_entry_72 : decode cX11_entry 72 = .ok (.aload 4, 2) := by decide +kernel
theorem dX11_entry_74 : decode cX11_entry 74 = .ok (.getfield 282, 3) := by decide +kernel
theorem dX11_entry_77 : decode cX11_entry 77 = .ok (.ireturn, 1) := by decide +kernel
theorem dX11_entry_78 : decode cX11_entry 78 = .ok (.aload 4, 2) := by decide +kernel
theorem dX11_entry_80 : decode cX11_entry 80 = .ok (.getfield 285, 3) := by decide +kernel
theorem dX11_entry_83 : decode cX11_entry 83 = .ok (.ireturn, 1) := by decide +kernel
theorem dX11_entry_84 : decode cX11_entry 84 = .ok (.new 51, 3) := by decide +kernel
theorem dX11_entry_87 : decode cX11_entry 87 = .ok (.dup, 1) := by decide +kernel
theorem dX11_entry_88 : decode cX11_entry 88 = .ok (.ldc_w 263, 3) := by decide +kernel
theorem dX11_entry_91 : decode cX11_entry 91 = .ok (.invokespecial 55, 3) := by decide +kernel
theorem dX11_entry_94 : decode cX11_entry 94 = .ok (.athrow, 1) := by decide +kernel
theorem dX11_clock_0 : decode cX11_clock 0 = .ok (.aload_n 0, 1) := by decide +kernel
theorem dX11_clock_1 : decode cX11_clock 1 = .ok (.iload_n 1, 1) := by decide +kernel
theorem dX11_clock_2 : decode cX11_clock 2 = .ok (.invokevirtual 62, 3) := by decide +kernel
theorem dX11_clock_5 : decode cX11_clock 5 = .ok (.getfield 98, 3) := by decide +kernel
theorem dX11_clock_8 : decode cX11_clock 8 = .ok (.freturn, 1) := by decide +kernel
theorem dX11_lease_0 : decode cX11_lease 0 = .ok (.aload_n 0, 1) := by decide +kernel
theorem dX11_lease_1 : decode cX11_lease 1 = .ok (.iload_n 1, 1) := by decide +kernel
theorem dX11_lease_2 : decode cX11_lease 2 = .ok (.invokevirtual 62, 3) := by decide +kernel
theorem dX11_lease_5 : decode cX11_lease 5 = .ok (.getfield 286, 3) := by decide +kernel
theorem dX11_lease_8 : decode cX11_lease 8 = .ok (.astore_n 2, 1) := by decide +kernel
theorem dX11_lease_9 : decode cX11_lease 9 = .ok (.aload_n 2, 1) := by decide +kernel
theorem dX11_lease_10 : decode cX11_lease 10 = .ok (.getfield 290, 3) := by decide +kernel
theorem dX11_lease_13 : decode cX11_lease 13 = .ok (.ifCond .eq 10, 3) := by decide +kernel
theorem dX11_lease_16 : decode cX11_lease 16 = .ok (.aload_n 2, 1) := by decide +kernel
theorem dX11_lease_17 : decode cX11_lease 17 = .ok (.getfield 295, 3) := by decide +kernel
theorem dX11_lease_20 : decode cX11_lease 20 = .ok (.goto 6, 3) := by decide +kernel
theorem dX11_lease_23 : decode cX11_lease 23 = .ok (.ldc_w 298, 3) := by decide +kernel
theorem dX11_lease_26 : decode cX11_lease 26 = .ok (.freturn, 1) := by decide +kernel
theorem dX11_leases_0 : decode cX11_leases 0 = .ok (.iconst 0, 1) := by decide +kernel
theorem dX11_leases_1 : decode cX11_leases 1 = .ok (.istore_n 1, 1) := by decide +kernel
theorem dX11_leases_2 : decode cX11_leases 2 = .ok (.iconst 0, 1) := by decide +kernel
theorem dX11_leases_3 : decode cX11_leases 3 = .ok (.istore_n 2, 1) := by decide +kernel
theorem dX11_leases_4 : decode cX11_leases 4 = .ok (.iload_n 2, 1) := by decide +kernel
theorem dX11_leases_5 : decode cX11_leases 5 = .ok (.aload_n 0, 1) := by decide +kernel
theorem dX11_leases_6 : decode cX11_leases 6 = .ok (.getfield 18, 3) := by decide +kernel
theorem dX11_leases_9 : decode cX11_leases 9 = .ok (.getfield 58, 3) := by decide +kernel
theorem dX11_leases_12 : decode cX11_leases 12 = .ok (.if_icmp .ge 36, 3) := by decide +kernel
theorem dX11_leases_15 : decode cX11_leases 15 = .ok (.aload_n 0, 1) := by decide +kernel
theorem dX11_leases_16 : decode cX11_leases 16 = .ok (.getfield 11, 3) := by decide +kernel
theorem dX11_leases_19 : decode cX11_leases 19 = .ok (.iload_n 2, 1) := by decide +kernel
theorem dX11_leases_20 : decode cX11_leases 20 = .ok (.aaload, 1) := by decide +kernel
theorem dX11_leases_21 : decode cX11_leases 21 = .ok (.getfield 69, 3) := by decide +kernel
theorem dX11_leases_24 : decode cX11_leases 24 = .ok (.ifCond .eq 18, 3) := by decide +kernel
theorem dX11_leases_27 : decode cX11_leases 27 = .ok (.aload_n 0, 1) := by decide +kernel
theorem dX11_leases_28 : decode cX11_leases 28 = .ok (.getfield 11, 3) := by decide +kernel
theorem dX11_leases_31 : decode cX11_leases 31 = .ok (.iload_n 2, 1) := by decide +kernel
theorem dX11_leases_32 : decode cX11_leases 32 = .ok (.aaload, 1) := by decide +kernel
theorem dX11_leases_33 : decode cX11_leases 33 = .ok (.invokevirtual 229, 3) := by decide +kernel
theorem dX11_leases_36 : decode cX11_leases 36 = .ok (.ifCond .eq 6, 3) := by decide +kernel
theorem dX11_leases_39 : decode cX11_leases 39 = .ok (.iinc 1 1, 3) := by decide +kernel
theorem dX11_leases_42 : decode cX11_leases 42 = .ok (.iinc 2 1, 3) := by decide +kernel
theorem dX11_leases_45 : decode cX11_leases 45 = .ok (.goto (-41), 3) := by decide +kernel
theorem dX11_leases_48 : decode cX11_leases 48 = .ok (.iload_n 1, 1) := by decide +kernel
theorem dX11_leases_49 : decode cX11_leases 49 = .ok (.ireturn, 1) := by decide +kernel
theorem dX11_decision_0 : decode cX11_decision 0 = .ok (.aload_n 0, 1) := by decide +kernel
theorem dX11_decision_1 : decode cX11_decision 1 = .ok (.aload_n 0, 1) := by decide +kernel
theorem dX11_decision_2 : decode cX11_decision 2 = .ok (.iload_n 1, 1) := by decide +kernel
theorem dX11_decision_3 : decode cX11_decision 3 = .ok (.invokevirtual 62, 3) := by decide +kernel
theorem dX11_decision_6 : decode cX11_decision 6 = .ok (.iload_n 2, 1) := by decide +kernel
theorem dX11_decision_7 : decode cX11_decision 7 = .ok (.invokevirtual 247, 3) := by decide +kernel
theorem dX11_decision_10 : decode cX11_decision 10 = .ok (.astore 4, 2) := by decide +kernel
theorem dX11_decision_12 : decode cX11_decision 12 = .ok (.iload_n 3, 1) := by decide +kernel
theorem dX11_decision_13 : decode cX11_decision 13 = .ok (.tableswitch 55 0 3 #[31, 37, 43, 49], 31) := by decide +kernel
theorem dX11_decision_44 : decode cX11_decision 44 = .ok (.aload 4, 2) := by decide +kernel
theorem dX11_decision_46 : decode cX11_decision 46 = .ok (.getfield 299, 3) := by decide +kernel
theorem dX11_decision_49 : decode cX11_decision 49 = .ok (.ireturn, 1) := by decide +kernel
theorem dX11_decision_50 : decode cX11_decision 50 = .ok (.aload 4, 2) := by decide +kernel
theorem dX11_decision_52 : decode cX11_decision 52 = .ok (.getfield 304, 3) := by decide +kernel
theorem dX11_decision_55 : decode cX11_decision 55 = .ok (.ireturn, 1) := by decide +kernel
theorem dX11_decision_56 : decode cX11_decision 56 = .ok (.aload 4, 2) := by decide +kernel
theorem dX11_decision_58 : decode cX11_decision 58 = .ok (.getfield 307, 3) := by decide +kernel
theorem dX11_decision_61 : decode cX11_decision 61 = .ok (.ireturn, 1) := by decide +kernel
theorem dX11_decision_62 : decode cX11_decision 62 = .ok (.aload 4, 2) := by decide +kernel
theorem dX11_decision_64 : decode cX11_decision 64 = .ok (.getfield 310, 3) := by decide +kernel
theorem dX11_decision_67 : decode cX11_decision 67 = .ok (.ireturn, 1) := by decide +kernel
theorem dX11_decision_68 : decode cX11_decision 68 = .ok (.new 51, 3) := by decide +kernel
theorem dX11_decision_71 : decode cX11_decision 71 = .ok (.dup, 1) := by decide +kernel
theorem dX11_decision_72 : decode cX11_decision 72 = .ok (.ldc_w 263, 3) := by decide +kernel
theorem dX11_decision_75 : decode cX11_decision 75 = .ok (.invokespecial 55, 3) := by decide +kernel
theorem dX11_decision_78 : decode cX11_decision 78 = .ok (.athrow, 1) := by decide +kernel
theorem dX11_acts_0 : decode cX11_acts 0 = .ok (.aload_n 0, 1) := by decide +kernel
theorem dX11_acts_1 : decode cX11_acts 1 = .ok (.getfield 41, 3) := by decide +kernel
theorem dX11_acts_4 : decode cX11_acts 4 = .ok (.getfield 313, 3) := by decide +kernel
theorem dX11_acts_7 : decode cX11_acts 7 = .ok (.ireturn, 1) := by decide +kernel
theorem dX11_act_0 : decode cX11_act 0 = .ok (.aload_n 0, 1) := by decide +kernel
theorem dX11_act_1 : decode cX11_act 1 = .ok (.getfield 41, 3) := by decide +kernel
theorem dX11_act_4 : decode cX11_act 4 = .ok (.iload_n 1, 1) := by decide +kernel
theorem dX11_act_5 : decode cX11_act 5 = .ok (.invokevirtual 314, 3) := by decide +kernel
theorem dX11_act_8 : decode cX11_act 8 = .ok (.astore_n 3, 1) := by decide +kernel
theorem dX11_act_9 : decode cX11_act 9 = .ok (.aload_n 3, 1) := by decide +kernel
theorem dX11_act_10 : decode cX11_act 10 = .ok (.ifnonnull 14, 3) := by decide +kernel
theorem dX11_act_13 : decode cX11_act 13 = .ok (.new 182, 3) := by decide +kernel
theorem dX11_act_16 : decode cX11_act 16 = .ok (.dup, 1) := by decide +kernel
theorem dX11_act_17 : decode cX11_act 17 = .ok (.ldc_w 317, 3) := by decide +kernel
theorem dX11_act_20 : decode cX11_act 20 = .ok (.invokespecial 186, 3) := by decide +kernel
theorem dX11_act_23 : decode cX11_act 23 = .ok (.athrow, 1) := by decide +kernel
theorem dX11_act_24 : decode cX11_act 24 = .ok (.iload_n 2, 1) := by decide +kernel
theorem dX11_act_25 : decode cX11_act 25 = .ok (.tableswitch 59 0 3 #[31, 44, 49, 54], 31) := by decide +kernel
theorem dX11_act_56 : decode cX11_act 56 = .ok (.aload_n 3, 1) := by decide +kernel
theorem dX11_act_57 : decode cX11_act 57 = .ok (.getfield 319, 3) := by decide +kernel
theorem dX11_act_60 : decode cX11_act 60 = .ok (.ifCond .eq 7, 3) := by decide +kernel
theorem dX11_act_63 : decode cX11_act 63 = .ok (.iconst 1, 1) := by decide +kernel
theorem dX11_act_64 : decode cX11_act 64 = .ok (.goto 4, 3) := by decide +kernel
theorem dX11_act_67 : decode cX11_act 67 = .ok (.iconst 0, 1) := by decide +kernel
theorem dX11_act_68 : decode cX11_act 68 = .ok (.ireturn, 1) := by decide +kernel
theorem dX11_act_69 : decode cX11_act 69 = .ok (.aload_n 3, 1) := by decide +kernel
theorem dX11_act_70 : decode cX11_act 70 = .ok (.getfield 191, 3) := by decide +kernel
theorem dX11_act_73 : decode cX11_act 73 = .ok (.ireturn, 1) := by decide +kernel
theorem dX11_act_74 : decode cX11_act 74 = .ok (.aload_n 3, 1) := by decide +kernel
theorem dX11_act_75 : decode cX11_act 75 = .ok (.getfield 322, 3) := by decide +kernel
theorem dX11_act_78 : decode cX11_act 78 = .ok (.ireturn, 1) := by decide +kernel
theorem dX11_act_79 : decode cX11_act 79 = .ok (.aload_n 3, 1) := by decide +kernel
theorem dX11_act_80 : decode cX11_act 80 = .ok (.getfield 325, 3) := by decide +kernel
theorem dX11_act_83 : decode cX11_act 83 = .ok (.ireturn, 1) := by decide +kernel
theorem dX11_act_84 : decode cX11_act 84 = .ok (.new 51, 3) := by decide +kernel
theorem dX11_act_87 : decode cX11_act 87 = .ok (.dup, 1) := by decide +kernel
theorem dX11_act_88 : decode cX11_act 88 = .ok (.ldc_w 263, 3) := by decide +kernel
theorem dX11_act_91 : decode cX11_act 91 = .ok (.invokespecial 55, 3) := by decide +kernel
theorem dX11_act_94 : decode cX11_act 94 = .ok (.athrow, 1) := by decide +kernel
theorem dX11_isInOrder_0 : decode cX11_isInOrder 0 = .ok (.aload_n 0, 1) := by decide +kernel
theorem dX11_isInOrder_1 : decode cX11_isInOrder 1 = .ok (.getfield 41, 3) := by decide +kernel
theorem dX11_isInOrder_4 : decode cX11_isInOrder 4 = .ok (.invokevirtual 328, 3) := by decide +kernel
theorem dX11_isInOrder_7 : decode cX11_isInOrder 7 = .ok (.ireturn, 1) := by decide +kernel
theorem dX11_isAgreed_0 : decode cX11_isAgreed 0 = .ok (.iconst 0, 1) := by decide +kernel
theorem dX11_isAgreed_1 : decode cX11_isAgreed 1 = .ok (.istore_n 1, 1) := by decide +kernel
theorem dX11_isAgreed_2 : decode cX11_isAgreed 2 = .ok (.iload_n 1, 1) := by decide +kernel
theorem dX11_isAgreed_3 : decode cX11_isAgreed 3 = .ok (.aload_n 0, 1) := by decide +kernel
theorem dX11_isAgreed_4 : decode cX11_isAgreed 4 = .ok (.getfield 18, 3) := by decide +kernel
theorem dX11_isAgreed_7 : decode cX11_isAgreed 7 = .ok (.getfield 58, 3) := by decide +kernel
theorem dX11_isAgreed_10 : decode cX11_isAgreed 10 = .ok (.if_icmp .ge 42, 3) := by decide +kernel
theorem dX11_isAgreed_13 : decode cX11_isAgreed 13 = .ok (.iconst 0, 1) := by decide +kernel
theorem dX11_isAgreed_14 : decode cX11_isAgreed 14 = .ok (.istore_n 2, 1) := by decide +kernel
theorem dX11_isAgreed_15 : decode cX11_isAgreed 15 = .ok (.iload_n 2, 1) := by decide +kernel
theorem dX11_isAgreed_16 : decode cX11_isAgreed 16 = .ok (.iload_n 1, 1) := by decide +kernel
theorem dX11_isAgreed_17 : decode cX11_isAgreed 17 = .ok (.if_icmp .ge 29, 3) := by decide +kernel
theorem dX11_isAgreed_20 : decode cX11_isAgreed 20 = .ok (.aload_n 0, 1) := by decide +kernel
theorem dX11_isAgreed_21 : decode cX11_isAgreed 21 = .ok (.getfield 11, 3) := by decide +kernel
theorem dX11_isAgreed_24 : decode cX11_isAgreed 24 = .ok (.iload_n 1, 1) := by decide +kernel
theorem dX11_isAgreed_25 : decode cX11_isAgreed 25 = .ok (.aaload, 1) := by decide +kernel
theorem dX11_isAgreed_26 : decode cX11_isAgreed 26 = .ok (.aload_n 0, 1) := by decide +kernel
theorem dX11_isAgreed_27 : decode cX11_isAgreed 27 = .ok (.getfield 11, 3) := by decide +kernel
theorem dX11_isAgreed_30 : decode cX11_isAgreed 30 = .ok (.iload_n 2, 1) := by decide +kernel
theorem dX11_isAgreed_31 : decode cX11_isAgreed 31 = .ok (.aaload, 1) := by decide +kernel
theorem dX11_isAgreed_32 : decode cX11_isAgreed 32 = .ok (.invokevirtual 331, 3) := by decide +kernel
theorem dX11_isAgreed_35 : decode cX11_isAgreed 35 = .ok (.ifCond .ne 5, 3) := by decide +kernel
theorem dX11_isAgreed_38 : decode cX11_isAgreed 38 = .ok (.iconst 0, 1) := by decide +kernel
theorem dX11_isAgreed_39 : decode cX11_isAgreed 39 = .ok (.ireturn, 1) := by decide +kernel
theorem dX11_isAgreed_40 : decode cX11_isAgreed 40 = .ok (.iinc 2 1, 3) := by decide +kernel
theorem dX11_isAgreed_43 : decode cX11_isAgreed 43 = .ok (.goto (-28), 3) := by decide +kernel
theorem dX11_isAgreed_46 : decode cX11_isAgreed 46 = .ok (.iinc 1 1, 3) := by decide +kernel
theorem dX11_isAgreed_49 : decode cX11_isAgreed 49 = .ok (.goto (-47), 3) := by decide +kernel
theorem dX11_isAgreed_52 : decode cX11_isAgreed 52 = .ok (.iconst 1, 1) := by decide +kernel
theorem dX11_isAgreed_53 : decode cX11_isAgreed 53 = .ok (.ireturn, 1) := by decide +kernel
theorem dX11_renew_0 : decode cX11_renew 0 = .ok (.aload_n 0, 1) := by decide +kernel
theorem dX11_renew_1 : decode cX11_renew 1 = .ok (.getfield 18, 3) := by decide +kernel
theorem dX11_renew_4 : decode cX11_renew 4 = .ok (.iload_n 1, 1) := by decide +kernel
theorem dX11_renew_5 : decode cX11_renew 5 = .ok (.invokevirtual 335, 3) := by decide +kernel
theorem dX11_renew_8 : decode cX11_renew 8 = .ok (.aload_n 0, 1) := by decide +kernel
theorem dX11_renew_9 : decode cX11_renew 9 = .ok (.getfield 27, 3) := by decide +kernel
theorem dX11_renew_12 : decode cX11_renew 12 = .ok (.invokevirtual 336, 3) := by decide +kernel
theorem dX11_renew_15 : decode cX11_renew 15 = .ok (.aload_n 0, 1) := by decide +kernel
theorem dX11_renew_16 : decode cX11_renew 16 = .ok (.getfield 41, 3) := by decide +kernel
theorem dX11_renew_19 : decode cX11_renew 19 = .ok (.invokevirtual 338, 3) := by decide +kernel
theorem dX11_renew_22 : decode cX11_renew 22 = .ok (.aload_n 0, 1) := by decide +kernel
theorem dX11_renew_23 : decode cX11_renew 23 = .ok (.fconst 0, 1) := by decide +kernel
theorem dX11_renew_24 : decode cX11_renew 24 = .ok (.putfield 106, 3) := by decide +kernel
theorem dX11_renew_27 : decode cX11_renew 27 = .ok (.iconst 0, 1) := by decide +kernel
theorem dX11_renew_28 : decode cX11_renew 28 = .ok (.istore_n 2, 1) := by decide +kernel
theorem dX11_renew_29 : decode cX11_renew 29 = .ok (.iload_n 2, 1) := by decide +kernel
theorem dX11_renew_30 : decode cX11_renew 30 = .ok (.iconst 5, 1) := by decide +kernel
theorem dX11_renew_31 : decode cX11_renew 31 = .ok (.if_icmp .ge 18, 3) := by decide +kernel
theorem dX11_renew_34 : decode cX11_renew 34 = .ok (.aload_n 0, 1) := by decide +kernel
theorem dX11_renew_35 : decode cX11_renew 35 = .ok (.getfield 11, 3) := by decide +kernel
theorem dX11_renew_38 : decode cX11_renew 38 = .ok (.iload_n 2, 1) := by decide +kernel
theorem dX11_renew_39 : decode cX11_renew 39 = .ok (.aaload, 1) := by decide +kernel
theorem dX11_renew_40 : decode cX11_renew 40 = .ok (.invokevirtual 339, 3) := by decide +kernel
theorem dX11_renew_43 : decode cX11_renew 43 = .ok (.iinc 2 1, 3) := by decide +kernel
theorem dX11_renew_46 : decode cX11_renew 46 = .ok (.goto (-17), 3) := by decide +kernel
theorem dX11_renew_49 : decode cX11_renew 49 = .ok (.return_, 1) := by decide +kernel
theorem dX11_needMachine_0 : decode cX11_needMachine 0 = .ok (.iload_n 1, 1) := by decide +kernel
theorem dX11_needMachine_1 : decode cX11_needMachine 1 = .ok (.ifCond .lt 14, 3) := by decide +kernel
theorem dX11_needMachine_4 : decode cX11_needMachine 4 = .ok (.iload_n 1, 1) := by decide +kernel
theorem dX11_needMachine_5 : decode cX11_needMachine 5 = .ok (.aload_n 0, 1) := by decide +kernel
theorem dX11_needMachine_6 : decode cX11_needMachine 6 = .ok (.getfield 18, 3) := by decide +kernel
theorem dX11_needMachine_9 : decode cX11_needMachine 9 = .ok (.getfield 58, 3) := by decide +kernel
theorem dX11_needMachine_12 : decode cX11_needMachine 12 = .ok (.if_icmp .lt 14, 3) := by decide +kernel
theorem dX11_needMachine_15 : decode cX11_needMachine 15 = .ok (.new 182, 3) := by decide +kernel
theorem dX11_needMachine_18 : decode cX11_needMachine 18 = .ok (.dup, 1) := by decide +kernel
theorem dX11_needMachine_19 : decode cX11_needMachine 19 = .ok (.ldc_w 340, 3) := by decide +kernel
theorem dX11_needMachine_22 : decode cX11_needMachine 22 = .ok (.invokespecial 186, 3) := by decide +kernel
theorem dX11_needMachine_25 : decode cX11_needMachine 25 = .ok (.athrow, 1) := by decide +kernel
theorem dX11_needMachine_26 : decode cX11_needMachine 26 = .ok (.aload_n 0, 1) := by decide +kernel
theorem dX11_needMachine_27 : decode cX11_needMachine 27 = .ok (.getfield 11, 3) := by decide +kernel
theorem dX11_needMachine_30 : decode cX11_needMachine 30 = .ok (.iload_n 1, 1) := by decide +kernel
theorem dX11_needMachine_31 : decode cX11_needMachine 31 = .ok (.aaload, 1) := by decide +kernel
theorem dX11_needMachine_32 : decode cX11_needMachine 32 = .ok (.areturn, 1) := by decide +kernel
theorem dX11_needChoice_0 : decode cX11_needChoice 0 = .ok (.iload_n 2, 1) := by decide +kernel
theorem dX11_needChoice_1 : decode cX11_needChoice 1 = .ok (.ifCond .lt 8, 3) := by decide +kernel
theorem dX11_needChoice_4 : decode cX11_needChoice 4 = .ok (.iload_n 2, 1) := by decide +kernel
theorem dX11_needChoice_5 : decode cX11_needChoice 5 = .ok (.iconst 4, 1) := by decide +kernel
theorem dX11_needChoice_6 : decode cX11_needChoice 6 = .ok (.if_icmp .lt 14, 3) := by decide +kernel
theorem dX11_needChoice_9 : decode cX11_needChoice 9 = .ok (.new 182, 3) := by decide +kernel
theorem dX11_needChoice_12 : decode cX11_needChoice 12 = .ok (.dup, 1) := by decide +kernel
theorem dX11_needChoice_13 : decode cX11_needChoice 13 = .ok (.ldc_w 342, 3) := by decide +kernel
theorem dX11_needChoice_16 : decode cX11_needChoice 16 = .ok (.invokespecial 186, 3) := by decide +kernel
theorem dX11_needChoice_19 : decode cX11_needChoice 19 = .ok (.athrow, 1) := by decide +kernel
theorem dX11_needChoice_20 : decode cX11_needChoice 20 = .ok (.aload_n 1, 1) := by decide +kernel
theorem dX11_needChoice_21 : decode cX11_needChoice 21 = .ok (.getfield 344, 3) := by decide +kernel
theorem dX11_needChoice_24 : decode cX11_needChoice 24 = .ok (.iload_n 2, 1) := by decide +kernel
theorem dX11_needChoice_25 : decode cX11_needChoice 25 = .ok (.aaload, 1) := by decide +kernel
theorem dX11_needChoice_26 : decode cX11_needChoice 26 = .ok (.areturn, 1) := by decide +kernel
theorem dX11_needRange_0 : decode cX11_needRange 0 = .ok (.iload_n 0, 1) := by decide +kernel
theorem dX11_needRange_1 : decode cX11_needRange 1 = .ok (.iload_n 1, 1) := by decide +kernel
theorem dX11_needRange_2 : decode cX11_needRange 2 = .ok (.if_icmp .lt 8, 3) := by decide +kernel
theorem dX11_needRange_5 : decode cX11_needRange 5 = .ok (.iload_n 0, 1) := by decide +kernel
theorem dX11_needRange_6 : decode cX11_needRange 6 = .ok (.iload_n 2, 1) := by decide +kernel
theorem dX11_needRange_7 : decode cX11_needRange 7 = .ok (.if_icmp .le 14, 3) := by decide +kernel
theorem dX11_needRange_10 : decode cX11_needRange 10 = .ok (.new 51, 3) := by decide +kernel
theorem dX11_needRange_13 : decode cX11_needRange 13 = .ok (.dup, 1) := by decide +kernel
theorem dX11_needRange_14 : decode cX11_needRange 14 = .ok (.ldc_w 348, 3) := by decide +kernel
theorem dX11_needRange_17 : decode cX11_needRange 17 = .ok (.invokespecial 55, 3) := by decide +kernel
theorem dX11_needRange_20 : decode cX11_needRange 20 = .ok (.athrow, 1) := by decide +kernel
theorem dX11_needRange_21 : decode cX11_needRange 21 = .ok (.return_, 1) := by decide +kernel
theorem dX11_needMessage_0 : decode cX11_needMessage 0 = .ok (.aload_n 0, 1) := by decide +kernel
theorem dX11_needMessage_1 : decode cX11_needMessage 1 = .ok (.getfield 18, 3) := by decide +kernel
theorem dX11_needMessage_4 : decode cX11_needMessage 4 = .ok (.iload_n 1, 1) := by decide +kernel
theorem dX11_needMessage_5 : decode cX11_needMessage 5 = .ok (.invokevirtual 350, 3) := by decide +kernel
theorem dX11_needMessage_8 : decode cX11_needMessage 8 = .ok (.astore_n 2, 1) := by decide +kernel
theorem dX11_needMessage_9 : decode cX11_needMessage 9 = .ok (.aload_n 2, 1) := by decide +kernel
theorem dX11_needMessage_10 : decode cX11_needMessage 10 = .ok (.ifnonnull 14, 3) := by decide +kernel
theorem dX11_needMessage_13 : decode cX11_needMessage 13 = .ok (.new 182, 3) := by decide +kernel
theorem dX11_needMessage_16 : decode cX11_needMessage 16 = .ok (.dup, 1) := by decide +kernel
theorem dX11_needMessage_17 : decode cX11_needMessage 17 = .ok (.ldc_w 352, 3) := by decide +kernel
theorem dX11_needMessage_20 : decode cX11_needMessage 20 = .ok (.invokespecial 186, 3) := by decide +kernel
theorem dX11_needMessage_23 : decode cX11_needMessage 23 = .ok (.athrow, 1) := by decide +kernel
theorem dX11_needMessage_24 : decode cX11_needMessage 24 = .ok (.aload_n 2, 1) := by decide +kernel
theorem dX11_needMessage_25 : decode cX11_needMessage 25 = .ok (.areturn, 1) := by decide +kernel
theorem dX12_init_0 : decode cX12_init 0 = .ok (.aload_n 0, 1) := by decide +kernel
theorem dX12_init_1 : decode cX12_init 1 = .ok (.invokespecial 1, 3) := by decide +kernel
theorem dX12_init_4 : decode cX12_init 4 = .ok (.aload_n 0, 1) := by decide +kernel
theorem dX12_init_5 : decode cX12_init 5 = .ok (.iconst 3, 1) := by decide +kernel
theorem dX12_init_6 : decode cX12_init 6 = .ok (.putfield 7, 3) := by decide +kernel
theorem dX12_init_9 : decode cX12_init 9 = .ok (.aload_n 0, 1) := by decide +kernel
theorem dX12_init_10 : decode cX12_init 10 = .ok (.ldc 13, 2) := by decide +kernel
theorem dX12_init_12 : decode cX12_init 12 = .ok (.putfield 14, 3) := by decide +kernel
theorem dX12_init_15 : decode cX12_init 15 = .ok (.aload_n 0, 1) := by decide +kernel
theorem dX12_init_16 : decode cX12_init 16 = .ok (.iconst 5, 1) := by decide +kernel
theorem dX12_init_17 : decode cX12_init 17 = .ok (.newarray .boolean, 2) := by decide +kernel
theorem dX12_init_19 : decode cX12_init 19 = .ok (.putfield 18, 3) := by decide +kernel
theorem dX12_init_22 : decode cX12_init 22 = .ok (.aload_n 0, 1) := by decide +kernel
theorem dX12_init_23 : decode cX12_init 23 = .ok (.bipush 25, 2) := by decide +kernel
theorem dX12_init_25 : decode cX12_init 25 = .ok (.newarray .boolean, 2) := by decide +kernel
theorem dX12_init_27 : decode cX12_init 27 = .ok (.putfield 22, 3) := by decide +kernel
theorem dX12_init_30 : decode cX12_init 30 = .ok (.aload_n 0, 1) := by decide +kernel
theorem dX12_init_31 : decode cX12_init 31 = .ok (.iconst 5, 1) := by decide +kernel
theorem dX12_init_32 : decode cX12_init 32 = .ok (.newarray .float, 2) := by decide +kernel
theorem dX12_init_34 : decode cX12_init 34 = .ok (.putfield 25, 3) := by decide +kernel
theorem dX12_init_37 : decode cX12_init 37 = .ok (.aload_n 0, 1) := by decide +kernel
theorem dX12_init_38 : decode cX12_init 38 = .ok (.iconst 5, 1) := by decide +kernel
theorem dX12_init_39 : decode cX12_init 39 = .ok (.newarray .float, 2) := by decide +kernel
theorem dX12_init_41 : decode cX12_init 41 = .ok (.putfield 29, 3) := by decide +kernel
theorem dX12_init_44 : decode cX12_init 44 = .ok (.aload_n 0, 1) := by decide +kernel
theorem dX12_init_45 : decode cX12_init 45 = .ok (.iconst 5, 1) := by decide +kernel
theorem dX12_init_46 : decode cX12_init 46 = .ok (.newarray .int, 2) := by decide +kernel
theorem dX12_init_48 : decode cX12_init 48 = .ok (.putfield 32, 3) := by decide +kernel
theorem dX12_init_51 : decode cX12_init 51 = .ok (.aload_n 0, 1) := by decide +kernel
theorem dX12_init_52 : decode cX12_init 52 = .ok (.iconst 5, 1) := by decide +kernel
theorem dX12_init_53 : decode cX12_init 53 = .ok (.newarray .int, 2) := by decide +kernel
theorem dX12_init_55 : decode cX12_init 55 = .ok (.putfield 36, 3) := by decide +kernel
theorem dX12_init_58 : decode cX12_init 58 = .ok (.aload_n 0, 1) := by decide +kernel
theorem dX12_init_59 : decode cX12_init 59 = .ok (.iconst 5, 1) := by decide +kernel
theorem dX12_init_60 : decode cX12_init 60 = .ok (.newarray .int, 2) := by decide +kernel
theorem dX12_init_62 : decode cX12_init 62 = .ok (.putfield 39, 3) := by decide +kernel
theorem dX12_init_65 : decode cX12_init 65 = .ok (.aload_n 0, 1) := by decide +kernel
theorem dX12_init_66 : decode cX12_init 66 = .ok (.iconst 5, 1) := by decide +kernel
theorem dX12_init_67 : decode cX12_init 67 = .ok (.newarray .int, 2) := by decide +kernel
theorem dX12_init_69 : decode cX12_init 69 = .ok (.putfield 42, 3) := by decide +kernel
theorem dX12_init_72 : decode cX12_init 72 = .ok (.aload_n 0, 1) := by decide +kernel
theorem dX12_init_73 : decode cX12_init 73 = .ok (.iconst 5, 1) := by decide +kernel
theorem dX12_init_74 : decode cX12_init 74 = .ok (.newarray .int, 2) := by decide +kernel
theorem dX12_init_76 : decode cX12_init 76 = .ok (.putfield 45, 3) := by decide +kernel
theorem dX12_init_79 : decode cX12_init 79 = .ok (.aload_n 0, 1) := by decide +kernel
theorem dX12_init_80 : decode cX12_init 80 = .ok (.sipush 150, 3) := by decide +kernel
theorem dX12_init_83 : decode cX12_init 83 = .ok (.newarray .int, 2) := by decide +kernel
theorem dX12_init_85 : decode cX12_init 85 = .ok (.putfield 48, 3) := by decide +kernel
theorem dX12_init_88 : decode cX12_init 88 = .ok (.aload_n 0, 1) := by decide +kernel
theorem dX12_init_89 : decode cX12_init 89 = .ok (.sipush 150, 3) := by decide +kernel
theorem dX12_init_92 : decode cX12_init 92 = .ok (.newarray .int, 2) := by decide +kernel
theorem dX12_init_94 : decode cX12_init 94 = .ok (.putfield 51, 3) := by decide +kernel
theorem dX12_init_97 : decode cX12_init 97 = .ok (.aload_n 0, 1) := by decide +kernel
theorem dX12_init_98 : decode cX12_init 98 = .ok (.sipush 150, 3) := by decide +kernel
theorem dX12_init_101 : decode cX12_init 101 = .ok (.newarray .int, 2) := by decide +kernel
theorem dX12_init_103 : decode cX12_init 103 = .ok (.putfield 54, 3) := by decide +kernel
theorem dX12_init_106 : decode cX12_init 106 = .ok (.aload_n 0, 1) := by decide +kernel
theorem dX12_init_107 : decode cX12_init 107 = .ok (.sipush 150, 3) := by decide +kernel
theorem dX12_init_110 : decode cX12_init 110 = .ok (.newarray .int, 2) := by decide +kernel
theorem dX12_init_112 : decode cX12_init 112 = .ok (.putfield 57, 3) := by decide +kernel
theorem dX12_init_115 : decode cX12_init 115 = .ok (.aload_n 0, 1) := by decide +kernel
theorem dX12_init_116 : decode cX12_init 116 = .ok (.iconst 5, 1) := by decide +kernel
theorem dX12_init_117 : decode cX12_init 117 = .ok (.newarray .int, 2) := by decide +kernel
theorem dX12_init_119 : decode cX12_init 119 = .ok (.putfield 60, 3) := by decide +kernel
theorem dX12_init_122 : decode cX12_init 122 = .ok (.aload_n 0, 1) := by decide +kernel
theorem dX12_init_123 : decode cX12_init 123 = .ok (.bipush 25, 2) := by decide +kernel
theorem dX12_init_125 : decode cX12_init 125 = .ok (.newarray .int, 2) := by decide +kernel
theorem dX12_init_127 : decode cX12_init 127 = .ok (.putfield 63, 3) := by decide +kernel
theorem dX12_init_130 : decode cX12_init 130 = .ok (.aload_n 0, 1) := by decide +kernel
theorem dX12_init_131 : decode cX12_init 131 = .ok (.bipush 25, 2) := by decide +kernel
theorem dX12_init_133 : decode cX12_init 133 = .ok (.newarray .int, 2) := by decide +kernel
theorem dX12_init_135 : decode cX12_init 135 = .ok (.putfield 66, 3) := by decide +kernel
theorem dX12_init_138 : decode cX12_init 138 = .ok (.aload_n 0, 1) := by decide +kernel
theorem dX12_init_139 : decode cX12_init 139 = .ok (.bipush 25, 2) := by decide +kernel
theorem dX12_init_141 : decode cX12_init 141 = .ok (.newarray .boolean, 2) := by decide +kernel
theorem dX12_init_143 : decode cX12_init 143 = .ok (.putfield 69, 3) := by decide +kernel
theorem dX12_init_146 : decode cX12_init 146 = .ok (.aload_n 0, 1) := by decide +kernel
theorem dX12_init_147 : decode cX12_init 147 = .ok (.bipush 25, 2) := by decide +kernel
theorem dX12_init_149 : decode cX12_init 149 = .ok (.newarray .float, 2) := by decide +kernel
theorem dX12_init_151 : decode cX12_init 151 = .ok (.putfield 72, 3) := by decide +kernel
theorem dX12_init_154 : decode cX12_init 154 = .ok (.aload_n 0, 1) := by decide +kernel
theorem dX12_init_155 : decode cX12_init 155 = .ok (.iconst 5, 1) := by decide +kernel
theorem dX12_init_156 : decode cX12_init 156 = .ok (.newarray .boolean, 2) := by decide +kernel
theorem dX12_init_158 : decode cX12_init 158 = .ok (.putfield 75, 3) := by decide +kernel
theorem dX12_init_161 : decode cX12_init 161 = .ok (.aload_n 0, 1) := by decide +kernel
theorem dX12_init_162 : decode cX12_init 162 = .ok (.iconst 5, 1) := by decide +kernel
theorem dX12_init_163 : decode cX12_init 163 = .ok (.newarray .float, 2) := by decide +kernel
theorem dX12_init_165 : decode cX12_init 165 = .ok (.putfield 78, 3) := by decide +kernel
theorem dX12_init_168 : decode cX12_init 168 = .ok (.aload_n 0, 1) := by decide +kernel
theorem dX12_init_169 : decode cX12_init 169 = .ok (.iconst 5, 1) := by decide +kernel
theorem dX12_init_170 : decode cX12_init 170 = .ok (.newarray .int, 2) := by decide +kernel
theorem dX12_init_172 : decode cX12_init 172 = .ok (.putfield 81, 3) := by decide +kernel
theorem dX12_init_175 : decode cX12_init 175 = .ok (.aload_n 0, 1) := by decide +kernel
theorem dX12_init_176 : decode cX12_init 176 = .ok (.iconst 5, 1) := by decide +kernel
theorem dX12_init_177 : decode cX12_init 177 = .ok (.newarray .float, 2) := by decide +kernel
theorem dX12_init_179 : decode cX12_init 179 = .ok (.putfield 84, 3) := by decide +kernel
theorem dX12_init_182 : decode cX12_init 182 = .ok (.aload_n 0, 1) := by decide +kernel
theorem dX12_init_183 : decode cX12_init 183 = .ok (.bipush 20, 2) := by decide +kernel
theorem dX12_init_185 : decode cX12_init 185 = .ok (.newarray .int, 2) := by decide +kernel
theorem dX12_init_187 : decode cX12_init 187 = .ok (.putfield 87, 3) := by decide +kernel
theorem dX12_init_190 : decode cX12_init 190 = .ok (.aload_n 0, 1) := by decide +kernel
theorem dX12_init_191 : decode cX12_init 191 = .ok (.bipush 20, 2) := by decide +kernel
theorem dX12_init_193 : decode cX12_init 193 = .ok (.newarray .int, 2) := by decide +kernel
theorem dX12_init_195 : decode cX12_init 195 = .ok (.putfield 90, 3) := by decide +kernel
theorem dX12_init_198 : decode cX12_init 198 = .ok (.aload_n 0, 1) := by decide +kernel
theorem dX12_init_199 : decode cX12_init 199 = .ok (.bipush 20, 2) := by decide +kernel
theorem dX12_init_201 : decode cX12_init 201 = .ok (.newarray .int, 2) := by decide +kernel
theorem dX12_init_203 : decode cX12_init 203 = .ok (.putfield 93, 3) := by decide +kernel
theorem dX12_init_206 : decode cX12_init 206 = .ok (.aload_n 0, 1) := by decide +kernel
theorem dX12_init_207 : decode cX12_init 207 = .ok (.bipush 20, 2) := by decide +kernel
theorem dX12_init_209 : decode cX12_init 209 = .ok (.newarray .int, 2) := by decide +kernel
theorem dX12_init_211 : decode cX12_init 211 = .ok (.putfield 96, 3) := by decide +kernel
theorem dX12_init_214 : decode cX12_init 214 = .ok (.aload_n 0, 1) := by decide +kernel
theorem dX12_init_215 : decode cX12_init 215 = .ok (.bipush 20, 2) := by decide +kernel
theorem dX12_init_217 : decode cX12_init 217 = .ok (.newarray .int, 2) := by decide +kernel
theorem dX12_init_219 : decode cX12_init 219 = .ok (.putfield 99, 3) := by decide +kernel
theorem dX12_init_222 : decode cX12_init 222 = .ok (.aload_n 0, 1) := by decide +kernel
theorem dX12_init_223 : decode cX12_init 223 = .ok (.bipush 20, 2) := by decide +kernel
theorem dX12_init_225 : decode cX12_init 225 = .ok (.newarray .int, 2) := by decide +kernel
theorem dX12_init_227 : decode cX12_init 227 = .ok (.putfield 102, 3) := by decide +kernel
theorem dX12_init_230 : decode cX12_init 230 = .ok (.aload_n 0, 1) := by decide +kernel
theorem dX12_init_231 : decode cX12_init 231 = .ok (.bipush 20, 2) := by decide +kernel
theorem dX12_init_233 : decode cX12_init 233 = .ok (.newarray .int, 2) := by decide +kernel
theorem dX12_init_235 : decode cX12_init 235 = .ok (.putfield 105, 3) := by decide +kernel
theorem dX12_init_238 : decode cX12_init 238 = .ok (.aload_n 0, 1) := by decide +kernel
theorem dX12_init_239 : decode cX12_init 239 = .ok (.bipush 20, 2) := by decide +kernel
theorem dX12_init_241 : decode cX12_init 241 = .ok (.newarray .int, 2) := by decide +kernel
theorem dX12_init_243 : decode cX12_init 243 = .ok (.putfield 108, 3) := by decide +kernel
theorem dX12_init_246 : decode cX12_init 246 = .ok (.aload_n 0, 1) := by decide +kernel
theorem dX12_init_247 : decode cX12_init 247 = .ok (.bipush 20, 2) := by decide +kernel
theorem dX12_init_249 : decode cX12_init 249 = .ok (.newarray .boolean, 2) := by decide +kernel
theorem dX12_init_251 : decode cX12_init 251 = .ok (.putfield 111, 3) := by decide +kernel
theorem dX12_init_254 : decode cX12_init 254 = .ok (.aload_n 0, 1) := by decide +kernel
theorem dX12_init_255 : decode cX12_init 255 = .ok (.bipush 20, 2) := by decide +kernel
theorem dX12_init_257 : decode cX12_init 257 = .ok (.newarray .int, 2) := by decide +kernel
theorem dX12_init_259 : decode cX12_init 259 = .ok (.putfield 114, 3) := by decide +kernel
theorem dX12_init_262 : decode cX12_init 262 = .ok (.aload_n 0, 1) := by decide +kernel
theorem dX12_init_263 : decode cX12_init 263 = .ok (.sipush 1440, 3) := by decide +kernel
theorem dX12_init_266 : decode cX12_init 266 = .ok (.newarray .int, 2) := by decide +kernel
theorem dX12_init_268 : decode cX12_init 268 = .ok (.putfield 117, 3) := by decide +kernel
theorem dX12_init_271 : decode cX12_init 271 = .ok (.aload_n 0, 1) := by decide +kernel
theorem dX12_init_272 : decode cX12_init 272 = .ok (.bipush 60, 2) := by decide +kernel
theorem dX12_init_274 : decode cX12_init 274 = .ok (.newarray .float, 2) := by decide +kernel
theorem dX12_init_276 : decode cX12_init 276 = .ok (.putfield 120, 3) := by decide +kernel
theorem dX12_init_279 : decode cX12_init 279 = .ok (.aload_n 0, 1) := by decide +kernel
theorem dX12_init_280 : decode cX12_init 280 = .ok (.bipush 14, 2) := by decide +kernel
theorem dX12_init_282 : decode cX12_init 282 = .ok (.newarray .boolean, 2) := by decide +kernel
theorem dX12_init_284 : decode cX12_init 284 = .ok (.putfield 123, 3) := by decide +kernel
theorem dX12_init_287 : decode cX12_init 287 = .ok (.aload_n 0, 1) := by decide +kernel
theorem dX12_init_288 : decode cX12_init 288 = .ok (.bipush 14, 2) := by decide +kernel
theorem dX12_init_290 : decode cX12_init 290 = .ok (.newarray .int, 2) := by decide +kernel
theorem dX12_init_292 : decode cX12_init 292 = .ok (.putfield 126, 3) := by decide +kernel
theorem dX12_init_295 : decode cX12_init 295 = .ok (.aload_n 0, 1) := by decide +kernel
theorem dX12_init_296 : decode cX12_init 296 = .ok (.bipush 14, 2) := by decide +kernel
theorem dX12_init_298 : decode cX12_init 298 = .ok (.newarray .int, 2) := by decide +kernel
theorem dX12_init_300 : decode cX12_init 300 = .ok (.putfield 129, 3) := by decide +kernel
theorem dX12_init_303 : decode cX12_init 303 = .ok (.aload_n 0, 1) := by decide +kernel
theorem dX12_init_304 : decode cX12_init 304 = .ok (.bipush 14, 2) := by decide +kernel
theorem dX12_init_306 : decode cX12_init 306 = .ok (.newarray .int, 2) := by decide +kernel
theorem dX12_init_308 : decode cX12_init 308 = .ok (.putfield 132, 3) := by decide +kernel
theorem dX12_init_311 : decode cX12_init 311 = .ok (.aload_n 0, 1) := by decide +kernel
theorem dX12_init_312 : decode cX12_init 312 = .ok (.bipush 14, 2) := by decide +kernel
theorem dX12_init_314 : decode cX12_init 314 = .ok (.newarray .int, 2) := by decide +kernel
theorem dX12_init_316 : decode cX12_init 316 = .ok (.putfield 135, 3) := by decide +kernel
theorem dX12_init_319 : decode cX12_init 319 = .ok (.aload_n 0, 1) := by decide +kernel
theorem dX12_init_320 : decode cX12_init 320 = .ok (.bipush 14, 2) := by decide +kernel
theorem dX12_init_322 : decode cX12_init 322 = .ok (.newarray .int, 2) := by decide +kernel
theorem dX12_init_324 : decode cX12_init 324 = .ok (.putfield 138, 3) := by decide +kernel
theorem dX12_init_327 : decode cX12_init 327 = .ok (.aload_n 0, 1) := by decide +kernel
theorem dX12_init_328 : decode cX12_init 328 = .ok (.sipush 16384, 3) := by decide +kernel
theorem dX12_init_331 : decode cX12_init 331 = .ok (.newarray .int, 2) := by decide +kernel
theorem dX12_init_333 : decode cX12_init 333 = .ok (.putfield 141, 3) := by decide +kernel
theorem dX12_init_336 : decode cX12_init 336 = .ok (.aload_n 0, 1) := by decide +kernel
theorem dX12_init_337 : decode cX12_init 337 = .ok (.bipush 24, 2) := by decide +kernel
theorem dX12_init_339 : decode cX12_init 339 = .ok (.newarray .int, 2) := by decide +kernel
theorem dX12_init_341 : decode cX12_init 341 = .ok (.putfield 144, 3) := by decide +kernel
theorem dX12_init_344 : decode cX12_init 344 = .ok (.aload_n 0, 1) := by decide +kernel
theorem dX12_init_345 : decode cX12_init 345 = .ok (.iconst 3, 1) := by decide +kernel
theorem dX12_init_346 : decode cX12_init 346 = .ok (.invokevirtual 147, 3) := by decide +kernel
theorem dX12_init_349 : decode cX12_init 349 = .ok (.return_, 1) := by decide +kernel
theorem dX12_thrown_0 : decode cX12_thrown 0 = .ok (.aload_n 0, 1) := by decide +kernel
theorem dX12_thrown_1 : decode cX12_thrown 1 = .ok (.getfield 151, 3) := by decide +kernel
theorem dX12_thrown_4 : decode cX12_thrown 4 = .ok (.ireturn, 1) := by decide +kernel
theorem dX12_in_0 : decode cX12_in 0 = .ok (.iload_n 0, 1) := by decide +kernel
theorem dX12_in_1 : decode cX12_in 1 = .ok (.iload_n 1, 1) := by decide +kernel
theorem dX12_in_2 : decode cX12_in 2 = .ok (.if_icmp .lt 12, 3) := by decide +kernel
theorem dX12_in_5 : decode cX12_in 5 = .ok (.iload_n 0, 1) := by decide +kernel
theorem dX12_in_6 : decode cX12_in 6 = .ok (.iload_n 2, 1) := by decide +kernel
theorem dX12_in_7 : decode cX12_in 7 = .ok (.if_icmp .gt 7, 3) := by decide +kernel
theorem dX12_in_10 : decode cX12_in 10 = .ok (.iconst 1, 1) := by decide +kernel
theorem dX12_in_11 : decode cX12_in 11 = .ok (.goto 4, 3) := by decide +kernel
theorem dX12_in_14 : decode cX12_in 14 = .ok (.iconst 0, 1) := by decide +kernel
theorem dX12_in_15 : decode cX12_in 15 = .ok (.ireturn, 1) := by decide +kernel
theorem dX12_goes_0 : decode cX12_goes 0 = .ok (.aload_n 0, 1) := by decide +kernel
theorem dX12_goes_1 : decode cX12_goes 1 = .ok (.iload_n 1, 1) := by decide +kernel
theorem dX12_goes_2 : decode cX12_goes 2 = .ok (.ifCond .ne 7, 3) := by decide +kernel
theorem dX12_goes_5 : decode cX12_goes 5 = .ok (.iconst 1, 1) := by decide +kernel
theorem dX12_goes_6 : decode cX12_goes 6 = .ok (.goto 20, 3) := by decide +kernel
theorem dX12_goes_9 : decode cX12_goes 9 = .ok (.iload_n 2, 1) := by decide +kernel
theorem dX12_goes_10 : decode cX12_goes 10 = .ok (.ifCond .ne 7, 3) := by decide +kernel
theorem dX12_goes_13 : decode cX12_goes 13 = .ok (.iconst 2, 1) := by decide +kernel
theorem dX12_goes_14 : decode cX12_goes 14 = .ok (.goto 12, 3) := by decide +kernel
theorem dX12_goes_17 : decode cX12_goes 17 = .ok (.iload_n 3, 1) := by decide +kernel
theorem dX12_goes_18 : decode cX12_goes 18 = .ok (.ifCond .eq 7, 3) := by decide +kernel
theorem dX12_goes_21 : decode cX12_goes 21 = .ok (.iconst 0, 1) := by decide +kernel
theorem dX12_goes_22 : decode cX12_goes 22 = .ok (.goto 4, 3) := by decide +kernel
theorem dX12_goes_25 : decode cX12_goes 25 = .ok (.iconst 3, 1) := by decide +kernel
theorem dX12_goes_26 : decode cX12_goes 26 = .ok (.putfield 151, 3) := by decide +kernel
theorem dX12_goes_29 : decode cX12_goes 29 = .ok (.aload_n 0, 1) := by decide +kernel
theorem dX12_goes_30 : decode cX12_goes 30 = .ok (.getfield 151, 3) := by decide +kernel
theorem dX12_goes_33 : decode cX12_goes 33 = .ok (.ifCond .ne 7, 3) := by decide +kernel
theorem dX12_goes_36 : decode cX12_goes 36 = .ok (.iconst 1, 1) := by decide +kernel
theorem dX12_goes_37 : decode cX12_goes 37 = .ok (.goto 4, 3) := by decide +kernel
theorem dX12_goes_40 : decode cX12_goes 40 = .ok (.iconst 0, 1) := by decide +kernel
theorem dX12_goes_41 : decode cX12_goes 41 = .ok (.ireturn, 1) := by decide +kernel
theorem dX12_isMachine_0 : decode cX12_isMachine 0 = .ok (.iload_n 1, 1) := by decide +kernel
theorem dX12_isMachine_1 : decode cX12_isMachine 1 = .ok (.iconst 0, 1) := by decide +kernel
theorem dX12_isMachine_2 : decode cX12_isMachine 2 = .ok (.aload_n 0, 1) := by decide +kernel
theorem dX12_isMachine_3 : decode cX12_isMachine 3 = .ok (.getfield 7, 3) := by decide +kernel
theorem dX12_isMachine_6 : decode cX12_isMachine 6 = .ok (.iconst 1, 1) := by decide +kernel
theorem dX12_isMachine_7 : decode cX12_isMachine 7 = .ok (.isub, 1) := by decide +kernel
theorem dX12_isMachine_8 : decode cX12_isMachine 8 = .ok (.invokestatic 154, 3) := by decide +kernel
theorem dX12_isMachine_11 : decode cX12_isMachine 11 = .ok (.ireturn, 1) := by decide +kernel
theorem dX12_most_0 : decode cX12_most 0 = .ok (.aload_n 0, 1) := by decide +kernel
theorem dX12_most_1 : decode cX12_most 1 = .ok (.getfield 7, 3) := by decide +kernel
theorem dX12_most_4 : decode cX12_most 4 = .ok (.iconst 2, 1) := by decide +kernel
theorem dX12_most_5 : decode cX12_most 5 = .ok (.idiv, 1) := by decide +kernel
theorem dX12_most_6 : decode cX12_most 6 = .ok (.iconst 1, 1) := by decide +kernel
theorem dX12_most_7 : decode cX12_most 7 = .ok (.iadd, 1) := by decide +kernel
theorem dX12_most_8 : decode cX12_most 8 = .ok (.ireturn, 1) := by decide +kernel
theorem dX12_bits_0 : decode cX12_bits 0 = .ok (.iconst 0, 1) := by decide +kernel
theorem dX12_bits_1 : decode cX12_bits 1 = .ok (.istore_n 1, 1) := by decide +kernel
theorem dX12_bits_2 : decode cX12_bits 2 = .ok (.iconst 0, 1) := by decide +kernel
theorem dX12_bits_3 : decode cX12_bits 3 = .ok (.istore_n 2, 1) := by decide +kernel
theorem dX12_bits_4 : decode cX12_bits 4 = .ok (.iload_n 2, 1) := by decide +kernel
theorem dX12_bits_5 : decode cX12_bits 5 = .ok (.iconst 5, 1) := by decide +kernel
theorem dX12_bits_6 : decode cX12_bits 6 = .ok (.if_icmp .ge 17, 3) := by decide +kernel
theorem dX12_bits_9 : decode cX12_bits 9 = .ok (.iload_n 1, 1) := by decide +kernel
theorem dX12_bits_10 : decode cX12_bits 10 = .ok (.iload_n 0, 1) := by decide +kernel
theorem dX12_bits_11 : decode cX12_bits 11 = .ok (.iload_n 2, 1) := by decide +kernel
theorem dX12_bits_12 : decode cX12_bits 12 = .ok (.ishr, 1) := by decide +kernel
theorem dX12_bits_13 : decode cX12_bits 13 = .ok (.iconst 1, 1) := by decide +kernel
theorem dX12_bits_14 : decode cX12_bits 14 = .ok (.iand, 1) := by decide +kernel
theorem dX12_bits_15 : decode cX12_bits 15 = .ok (.iadd, 1) := by decide +kernel
theorem dX12_bits_16 : decode cX12_bits 16 = .ok (.istore_n 1, 1) := by decide +kernel
theorem dX12_bits_17 : decode cX12_bits 17 = .ok (.iinc 2 1, 3) := by decide +kernel
theorem dX12_bits_20 : decode cX12_bits 20 = .ok (.goto (-16), 3) := by decide +kernel
theorem dX12_bits_23 : decode cX12_bits 23 = .ok (.iload_n 1, 1) := by decide +kernel
theorem dX12_bits_24 : decode cX12_bits 24 = .ok (.ireturn, 1) := by decide +kernel
theorem dX12_begins_0 : decode cX12_begins 0 = .ok (.aload_n 0, 1) := by decide +kernel
theorem dX12_begins_1 : decode cX12_begins 1 = .ok (.iload_n 1, 1) := by decide +kernel
theorem dX12_begins_2 : decode cX12_begins 2 = .ok (.putfield 7, 3) := by decide +kernel
theorem dX12_begins_5 : decode cX12_begins 5 = .ok (.aload_n 0, 1) := by decide +kernel
theorem dX12_begins_6 : decode cX12_begins 6 = .ok (.fconst 0, 1) := by decide +kernel
theorem dX12_begins_7 : decode cX12_begins 7 = .ok (.putfield 158, 3) := by decide +kernel
theorem dX12_begins_10 : decode cX12_begins 10 = .ok (.aload_n 0, 1) := by decide +kernel
theorem dX12_begins_11 : decode cX12_begins 11 = .ok (.ldc 13, 2) := by decide +kernel
theorem dX12_begins_13 : decode cX12_begins 13 = .ok (.putfield 14, 3) := by decide +kernel
theorem dX12_begins_16 : decode cX12_begins 16 = .ok (.aload_n 0, 1) := by decide +kernel
theorem dX12_begins_17 : decode cX12_begins 17 = .ok (.fconst 0, 1) := by decide +kernel
theorem dX12_begins_18 : decode cX12_begins 18 = .ok (.putfield 161, 3) := by decide +kernel
theorem dX12_begins_21 : decode cX12_begins 21 = .ok (.aload_n 0, 1) := by decide +kernel
theorem dX12_begins_22 : decode cX12_begins 22 = .ok (.iconst 0, 1) := by decide +kernel
theorem dX12_begins_23 : decode cX12_begins 23 = .ok (.putfield 164, 3) := by decide +kernel
theorem dX12_begins_26 : decode cX12_begins 26 = .ok (.aload_n 0, 1) := by decide +kernel
theorem dX12_begins_27 : decode cX12_begins 27 = .ok (.iconst 0, 1) := by decide +kernel
theorem dX12_begins_28 : decode cX12_begins 28 = .ok (.putfield 167, 3) := by decide +kernel
theorem dX12_begins_31 : decode cX12_begins 31 = .ok (.aload_n 0, 1) := by decide +kernel
theorem dX12_begins_32 : decode cX12_begins 32 = .ok (.iconst 0, 1) := by decide +kernel
theorem dX12_begins_33 : decode cX12_begins 33 = .ok (.putfield 170, 3) := by decide +kernel
theorem dX12_begins_36 : decode cX12_begins 36 = .ok (.iconst 0, 1) := by decide +kernel
theorem dX12_begins_37 : decode cX12_begins 37 = .ok (.istore_n 2, 1) := by decide +kernel
theorem dX12_begins_38 : decode cX12_begins 38 = .ok (.iload_n 2, 1) := by decide +kernel
theorem dX12_begins_39 : decode cX12_begins 39 = .ok (.iconst 5, 1) := by decide +kernel
theorem dX12_begins_40 : decode cX12_begins 40 = .ok (.if_icmp .ge 86, 3) := by decide +kernel
theorem dX12_begins_43 : decode cX12_begins 43 = .ok (.aload_n 0, 1) := by decide +kernel
theorem dX12_begins_44 : decode cX12_begins 44 = .ok (.getfield 18, 3) := by decide +kernel
theorem dX12_begins_47 : decode cX12_begins 47 = .ok (.iload_n 2, 1) := by decide +kernel
theorem dX12_begins_48 : decode cX12_begins 48 = .ok (.iconst 1, 1) := by decide +kernel
theorem dX12_begins_49 : decode cX12_begins 49 = .ok (.bastore, 1) := by decide +kernel
theorem dX12_begins_50 : decode cX12_begins 50 = .ok (.aload_n 0, 1) := by decide +kernel
theorem dX12_begins_51 : decode cX12_begins 51 = .ok (.getfield 25, 3) := by decide +kernel
theorem dX12_begins_54 : decode cX12_begins 54 = .ok (.iload_n 2, 1) := by decide +kernel
theorem dX12_begins_55 : decode cX12_begins 55 = .ok (.fconst 0, 1) := by decide +kernel
theorem dX12_begins_56 : decode cX12_begins 56 = .ok (.fastore, 1) := by decide +kernel
theorem dX12_begins_57 : decode cX12_begins 57 = .ok (.aload_n 0, 1) := by decide +kernel
theorem dX12_begins_58 : decode cX12_begins 58 = .ok (.getfield 29, 3) := by decide +kernel
theorem dX12_begins_61 : decode cX12_begins 61 = .ok (.iload_n 2, 1) := by decide +kernel
theorem dX12_begins_62 : decode cX12_begins 62 = .ok (.fconst 1, 1) := by decide +kernel
theorem dX12_begins_63 : decode cX12_begins 63 = .ok (.fastore, 1) := by decide +kernel
theorem dX12_begins_64 : decode cX12_begins 64 = .ok (.aload_n 0, 1) := by decide +kernel
theorem dX12_begins_65 : decode cX12_begins 65 = .ok (.getfield 32, 3) := by decide +kernel
theorem dX12_begins_68 : decode cX12_begins 68 = .ok (.iload_n 2, 1) := by decide +kernel
theorem dX12_begins_69 : decode cX12_begins 69 = .ok (.iconst 0, 1) := by decide +kernel
theorem dX12_begins_70 : decode cX12_begins 70 = .ok (.iastore, 1) := by decide +kernel
theorem dX12_begins_71 : decode cX12_begins 71 = .ok (.aload_n 0, 1) := by decide +kernel
theorem dX12_begins_72 : decode cX12_begins 72 = .ok (.getfield 36, 3) := by decide +kernel
theorem dX12_begins_75 : decode cX12_begins 75 = .ok (.iload_n 2, 1) := by decide +kernel
theorem dX12_begins_76 : decode cX12_begins 76 = .ok (.iconst (-1), 1) := by decide +kernel
theorem dX12_begins_77 : decode cX12_begins 77 = .ok (.iastore, 1) := by decide +kernel
theorem dX12_begins_78 : decode cX12_begins 78 = .ok (.aload_n 0, 1) := by decide +kernel
theorem dX12_begins_79 : decode cX12_begins 79 = .ok (.getfield 39, 3) := by decide +kernel
theorem dX12_begins_82 : decode cX12_begins 82 = .ok (.iload_n 2, 1) := by decide +kernel
theorem dX12_begins_83 : decode cX12_begins 83 = .ok (.iconst 0, 1) := by decide +kernel
theorem dX12_begins_84 : decode cX12_begins 84 = .ok (.iastore, 1) := by decide +kernel
theorem dX12_begins_85 : decode cX12_begins 85 = .ok (.aload_n 0, 1) := by decide +kernel
theorem dX12_begins_86 : decode cX12_begins 86 = .ok (.getfield 42, 3) := by decide +kernel
theorem dX12_begins_89 : decode cX12_begins 89 = .ok (.iload_n 2, 1) := by decide +kernel
theorem dX12_begins_90 : decode cX12_begins 90 = .ok (.iconst 0, 1) := by decide +kernel
theorem dX12_begins_91 : decode cX12_begins 91 = .ok (.iastore, 1) := by decide +kernel
theorem dX12_begins_92 : decode cX12_begins 92 = .ok (.aload_n 0, 1) := by decide +kernel
theorem dX12_begins_93 : decode cX12_begins 93 = .ok (.getfield 45, 3) := by decide +kernel
theorem dX12_begins_96 : decode cX12_begins 96 = .ok (.iload_n 2, 1) := by decide +kernel
theorem dX12_begins_97 : decode cX12_begins 97 = .ok (.iconst 0, 1) := by decide +kernel
theorem dX12_begins_98 : decode cX12_begins 98 = .ok (.iastore, 1) := by decide +kernel
theorem dX12_begins_99 : decode cX12_begins 99 = .ok (.aload_n 0, 1) := by decide +kernel
theorem dX12_begins_100 : decode cX12_begins 100 = .ok (.getfield 60, 3) := by decide +kernel
theorem dX12_begins_103 : decode cX12_begins 103 = .ok (.iload_n 2, 1) := by decide +kernel
theorem dX12_begins_104 : decode cX12_begins 104 = .ok (.iconst 0, 1) := by decide +kernel
theorem dX12_begins_105 : decode cX12_begins 105 = .ok (.iastore, 1) := by decide +kernel
theorem dX12_begins_106 : decode cX12_begins 106 = .ok (.aload_n 0, 1) := by decide +kernel
theorem dX12_begins_107 : decode cX12_begins 107 = .ok (.getfield 75, 3) := by decide +kernel
theorem dX12_begins_110 : decode cX12_begins 110 = .ok (.iload_n 2, 1) := by decide +kernel
theorem dX12_begins_111 : decode cX12_begins 111 = .ok (.iconst 0, 1) := by decide +kernel
theorem dX12_begins_112 : decode cX12_begins 112 = .ok (.bastore, 1) := by decide +kernel
theorem dX12_begins_113 : decode cX12_begins 113 = .ok (.aload_n 0, 1) := by decide +kernel
theorem dX12_begins_114 : decode cX12_begins 114 = .ok (.getfield 81, 3) := by decide +kernel
theorem dX12_begins_117 : decode cX12_begins 117 = .ok (.iload_n 2, 1) := by decide +kernel
theorem dX12_begins_118 : decode cX12_begins 118 = .ok (.iconst (-1), 1) := by decide +kernel
theorem dX12_begins_119 : decode cX12_begins 119 = .ok (.iastore, 1) := by decide +kernel
theorem dX12_begins_120 : decode cX12_begins 120 = .ok (.iinc 2 1, 3) := by decide +kernel
theorem dX12_begins_123 : decode cX12_begins 123 = .ok (.goto (-85), 3) := by decide +kernel
theorem dX12_begins_126 : decode cX12_begins 126 = .ok (.iconst 0, 1) := by decide +kernel
theorem dX12_begins_127 : decode cX12_begins 127 = .ok (.istore_n 2, 1) := by decide +kernel
theorem dX12_begins_128 : decode cX12_begins 128 = .ok (.iload_n 2, 1) := by decide +kernel
theorem dX12_begins_129 : decode cX12_begins 129 = .ok (.bipush 25, 2) := by decide +kernel
theorem dX12_begins_131 : decode cX12_begins 131 = .ok (.if_icmp .ge 16, 3) := by decide +kernel
theorem dX12_begins_134 : decode cX12_begins 134 = .ok (.aload_n 0, 1) := by decide +kernel
theorem dX12_begins_135 : decode cX12_begins 135 = .ok (.getfield 22, 3) := by decide +kernel
theorem dX12_begins_138 : decode cX12_begins 138 = .ok (.iload_n 2, 1) := by decide +kernel
theorem dX12_begins_139 : decode cX12_begins 139 = .ok (.iconst 0, 1) := by decide +kernel
theorem dX12_begins_140 : decode cX12_begins 140 = .ok (.bastore, 1) := by decide +kernel
theorem dX12_begins_141 : decode cX12_begins 141 = .ok (.iinc 2 1, 3) := by decide +kernel
theorem dX12_begins_144 : decode cX12_begins 144 = .ok (.goto (-16), 3) := by decide +kernel
theorem dX12_begins_147 : decode cX12_begins 147 = .ok (.iconst 0, 1) := by decide +kernel
theorem dX12_begins_148 : decode cX12_begins 148 = .ok (.istore_n 2, 1) := by decide +kernel
theorem dX12_begins_149 : decode cX12_begins 149 = .ok (.iload_n 2, 1) := by decide +kernel
theorem dX12_begins_150 : decode cX12_begins 150 = .ok (.bipush 20, 2) := by decide +kernel
theorem dX12_begins_152 : decode cX12_begins 152 = .ok (.if_icmp .ge 44, 3) := by decide +kernel
theorem dX12_begins_155 : decode cX12_begins 155 = .ok (.aload_n 0, 1) := by decide +kernel
theorem dX12_begins_156 : decode cX12_begins 156 = .ok (.getfield 87, 3) := by decide +kernel
theorem dX12_begins_159 : decode cX12_begins 159 = .ok (.iload_n 2, 1) := by decide +kernel
theorem dX12_begins_160 : decode cX12_begins 160 = .ok (.iconst (-1), 1) := by decide +kernel
theorem dX12_begins_161 : decode cX12_begins 161 = .ok (.iastore, 1) := by decide +kernel
theorem dX12_begins_162 : decode cX12_begins 162 = .ok (.aload_n 0, 1) := by decide +kernel
theorem dX12_begins_163 : decode cX12_begins 163 = .ok (.getfield 90, 3) := by decide +kernel
theorem dX12_begins_166 : decode cX12_begins 166 = .ok (.iload_n 2, 1) := by decide +kernel
theorem dX12_begins_167 : decode cX12_begins 167 = .ok (.iconst (-1), 1) := by decide +kernel
theorem dX12_begins_168 : decode cX12_begins 168 = .ok (.iastore, 1) := by decide +kernel
theorem dX12_begins_169 : decode cX12_begins 169 = .ok (.aload_n 0, 1) := by decide +kernel
theorem dX12_begins_170 : decode cX12_begins 170 = .ok (.getfield 93, 3) := by decide +kernel
theorem dX12_begins_173 : decode cX12_begins 173 = .ok (.iload_n 2, 1) := by decide +kernel
theorem dX12_begins_174 : decode cX12_begins 174 = .ok (.iconst (-1), 1) := by decide +kernel
theorem dX12_begins_175 : decode cX12_begins 175 = .ok (.iastore, 1) := by decide +kernel
theorem dX12_begins_176 : decode cX12_begins 176 = .ok (.aload_n 0, 1) := by decide +kernel
theorem dX12_begins_177 : decode cX12_begins 177 = .ok (.getfield 96, 3) := by decide +kernel
theorem dX12_begins_180 : decode cX12_begins 180 = .ok (.iload_n 2, 1) := by decide +kernel
theorem dX12_begins_181 : decode cX12_begins 181 = .ok (.iconst (-1), 1) := by decide +kernel
theorem dX12_begins_182 : decode cX12_begins 182 = .ok (.iastore, 1) := by decide +kernel
theorem dX12_begins_183 : decode cX12_begins 183 = .ok (.aload_n 0, 1) := by decide +kernel
theorem dX12_begins_184 : decode cX12_begins 184 = .ok (.getfield 99, 3) := by decide +kernel
theorem dX12_begins_187 : decode cX12_begins 187 = .ok (.iload_n 2, 1) := by decide +kernel
theorem dX12_begins_188 : decode cX12_begins 188 = .ok (.iconst (-1), 1) := by decide +kernel
theorem dX12_begins_189 : decode cX12_begins 189 = .ok (.iastore, 1) := by decide +kernel
theorem dX12_begins_190 : decode cX12_begins 190 = .ok (.iinc 2 1, 3) := by decide +kernel
theorem dX12_begins_193 : decode cX12_begins 193 = .ok (.goto (-44), 3) := by decide +kernel
theorem dX12_begins_196 : decode cX12_begins 196 = .ok (.return_, 1) := by decide +kernel
theorem dX12_begin_0 : decode cX12_begin 0 = .ok (.aload_n 0, 1) := by decide +kernel
theorem dX12_begin_1 : decode cX12_begin 1 = .ok (.iload_n 1, 1) := by decide +kernel
theorem dX12_begin_2 : decode cX12_begin 2 = .ok (.iconst 3, 1) := by decide +kernel
theorem dX12_begin_3 : decode cX12_begin 3 = .ok (.if_icmp .eq 8, 3) := by decide +kernel
theorem dX12_begin_6 : decode cX12_begin 6 = .ok (.iload_n 1, 1) := by decide +kernel
theorem dX12_begin_7 : decode cX12_begin 7 = .ok (.iconst 5, 1) := by decide +kernel
theorem dX12_begin_8 : decode cX12_begin 8 = .ok (.if_icmp .ne 7, 3) := by decide +kernel
theorem dX12_begin_11 : decode cX12_begin 11 = .ok (.iconst 1, 1) := by decide +kernel
theorem dX12_begin_12 : decode cX12_begin 12 = .ok (.goto 4, 3) := by decide +kernel
theorem dX12_begin_15 : decode cX12_begin 15 = .ok (.iconst 0, 1) := by decide +kernel
theorem dX12_begin_16 : decode cX12_begin 16 = .ok (.iconst 1, 1) := by decide +kernel
theorem dX12_begin_17 : decode cX12_begin 17 = .ok (.iconst 1, 1) := by decide +kernel
theorem dX12_begin_18 : decode cX12_begin 18 = .ok (.invokevirtual 173, 3) := by decide +kernel
theorem dX12_begin_21 : decode cX12_begin 21 = .ok (.ifCond .ne 5, 3) := by decide +kernel
theorem dX12_begin_24 : decode cX12_begin 24 = .ok (.iconst 0, 1) := by decide +kernel
theorem dX12_begin_25 : decode cX12_begin 25 = .ok (.ireturn, 1) := by decide +kernel
theorem dX12_begin_26 : decode cX12_begin 26 = .ok (.aload_n 0, 1) := by decide +kernel
theorem dX12_begin_27 : decode cX12_begin 27 = .ok (.getfield 7, 3) := by decide +kernel
theorem dX12_begin_30 : decode cX12_begin 30 = .ok (.istore_n 2, 1) := by decide +kernel
theorem dX12_begin_31 : decode cX12_begin 31 = .ok (.aload_n 0, 1) := by decide +kernel
theorem dX12_begin_32 : decode cX12_begin 32 = .ok (.iload_n 1, 1) := by decide +kernel
theorem dX12_begin_33 : decode cX12_begin 33 = .ok (.invokevirtual 147, 3) := by decide +kernel
theorem dX12_begin_36 : decode cX12_begin 36 = .ok (.iload_n 2, 1) := by decide +kernel
theorem dX12_begin_37 : decode cX12_begin 37 = .ok (.ireturn, 1) := by decide +kernel
theorem dX12_ends_0 : decode cX12_ends 0 = .ok (.iconst 0, 1) := by decide +kernel
theorem dX12_ends_1 : decode cX12_ends 1 = .ok (.istore_n 1, 1) := by decide +kernel
theorem dX12_ends_2 : decode cX12_ends 2 = .ok (.iload_n 1, 1) := by decide +kernel
theorem dX12_ends_3 : decode cX12_ends 3 = .ok (.aload_n 0, 1) := by decide +kernel
theorem dX12_ends_4 : decode cX12_ends 4 = .ok (.getfield 170, 3) := by decide +kernel
theorem dX12_ends_7 : decode cX12_ends 7 = .ok (.if_icmp .ge 46, 3) := by decide +kernel
theorem dX12_ends_10 : decode cX12_ends 10 = .ok (.aload_n 0, 1) := by decide +kernel
theorem dX12_ends_11 : decode cX12_ends 11 = .ok (.getfield 123, 3) := by decide +kernel
theorem dX12_ends_14 : decode cX12_ends 14 = .ok (.iload_n 1, 1) := by decide +kernel
theorem dX12_ends_15 : decode cX12_ends 15 = .ok (.baload, 1) := by decide +kernel
theorem dX12_ends_16 : decode cX12_ends 16 = .ok (.ifCond .eq 31, 3) := by decide +kernel
theorem dX12_ends_19 : decode cX12_ends 19 = .ok (.aload_n 0, 1) := by decide +kernel
theorem dX12_ends_20 : decode cX12_ends 20 = .ok (.getfield 138, 3) := by decide +kernel
theorem dX12_ends_23 : decode cX12_ends 23 = .ok (.iload_n 1, 1) := by decide +kernel
theorem dX12_ends_24 : decode cX12_ends 24 = .ok (.iaload, 1) := by decide +kernel
theorem dX12_ends_25 : decode cX12_ends 25 = .ok (.iconst (-1), 1) := by decide +kernel
theorem dX12_ends_26 : decode cX12_ends 26 = .ok (.if_icmp .ne 21, 3) := by decide +kernel
theorem dX12_ends_29 : decode cX12_ends 29 = .ok (.aload_n 0, 1) := by decide +kernel
theorem dX12_ends_30 : decode cX12_ends 30 = .ok (.iload_n 1, 1) := by decide +kernel
theorem dX12_ends_31 : decode cX12_ends 31 = .ok (.invokevirtual 177, 3) := by decide +kernel
theorem dX12_ends_34 : decode cX12_ends 34 = .ok (.ifCond .eq 13, 3) := by decide +kernel
theorem dX12_ends_37 : decode cX12_ends 37 = .ok (.aload_n 0, 1) := by decide +kernel
theorem dX12_ends_38 : decode cX12_ends 38 = .ok (.getfield 138, 3) := by decide +kernel
theorem dX12_ends_41 : decode cX12_ends 41 = .ok (.iload_n 1, 1) := by decide +kernel
theorem dX12_ends_42 : decode cX12_ends 42 = .ok (.aload_n 0, 1) := by decide +kernel
theorem dX12_ends_43 : decode cX12_ends 43 = .ok (.getfield 164, 3) := by decide +kernel
theorem dX12_ends_46 : decode cX12_ends 46 = .ok (.iastore, 1) := by decide +kernel
theorem dX12_ends_47 : decode cX12_ends 47 = .ok (.iinc 1 1, 3) := by decide +kernel
theorem dX12_ends_50 : decode cX12_ends 50 = .ok (.goto (-48), 3) := by decide +kernel
theorem dX12_ends_53 : decode cX12_ends 53 = .ok (.return_, 1) := by decide +kernel
theorem dX12_isAgreedAt_0 : decode cX12_isAgreedAt 0 = .ok (.iconst 0, 1) := by decide +kernel
theorem dX12_isAgreedAt_1 : decode cX12_isAgreedAt 1 = .ok (.istore_n 2, 1) := by decide +kernel
theorem dX12_isAgreedAt_2 : decode cX12_isAgreedAt 2 = .ok (.iload_n 2, 1) := by decide +kernel
theorem dX12_isAgreedAt_3 : decode cX12_isAgreedAt 3 = .ok (.aload_n 0, 1) := by decide +kernel
theorem dX12_isAgreedAt_4 : decode cX12_isAgreedAt 4 = .ok (.getfield 7, 3) := by decide +kernel
theorem dX12_isAgreedAt_7 : decode cX12_isAgreedAt 7 = .ok (.if_icmp .ge 77, 3) := by decide +kernel
theorem dX12_isAgreedAt_10 : decode cX12_isAgreedAt 10 = .ok (.bipush 30, 2) := by decide +kernel
theorem dX12_isAgreedAt_12 : decode cX12_isAgreedAt 12 = .ok (.iload_n 2, 1) := by decide +kernel
theorem dX12_isAgreedAt_13 : decode cX12_isAgreedAt 13 = .ok (.imul, 1) := by decide +kernel
theorem dX12_isAgreedAt_14 : decode cX12_isAgreedAt 14 = .ok (.istore_n 3, 1) := by decide +kernel
theorem dX12_isAgreedAt_15 : decode cX12_isAgreedAt 15 = .ok (.iload_n 3, 1) := by decide +kernel
theorem dX12_isAgreedAt_16 : decode cX12_isAgreedAt 16 = .ok (.bipush 30, 2) := by decide +kernel
theorem dX12_isAgreedAt_18 : decode cX12_isAgreedAt 18 = .ok (.iload_n 2, 1) := by decide +kernel
theorem dX12_isAgreedAt_19 : decode cX12_isAgreedAt 19 = .ok (.imul, 1) := by decide +kernel
theorem dX12_isAgreedAt_20 : decode cX12_isAgreedAt 20 = .ok (.aload_n 0, 1) := by decide +kernel
theorem dX12_isAgreedAt_21 : decode cX12_isAgreedAt 21 = .ok (.getfield 45, 3) := by decide +kernel
theorem dX12_isAgreedAt_24 : decode cX12_isAgreedAt 24 = .ok (.iload_n 2, 1) := by decide +kernel
theorem dX12_isAgreedAt_25 : decode cX12_isAgreedAt 25 = .ok (.iaload, 1) := by decide +kernel
theorem dX12_isAgreedAt_26 : decode cX12_isAgreedAt 26 = .ok (.iadd, 1) := by decide +kernel
theorem dX12_isAgreedAt_27 : decode cX12_isAgreedAt 27 = .ok (.if_icmp .ge 51, 3) := by decide +kernel
theorem dX12_isAgreedAt_30 : decode cX12_isAgreedAt 30 = .ok (.aload_n 0, 1) := by decide +kernel
theorem dX12_isAgreedAt_31 : decode cX12_isAgreedAt 31 = .ok (.getfield 39, 3) := by decide +kernel
theorem dX12_isAgreedAt_34 : decode cX12_isAgreedAt 34 = .ok (.iload_n 2, 1) := by decide +kernel
theorem dX12_isAgreedAt_35 : decode cX12_isAgreedAt 35 = .ok (.iaload, 1) := by decide +kernel
theorem dX12_isAgreedAt_36 : decode cX12_isAgreedAt 36 = .ok (.iconst 2, 1) := by decide +kernel
theorem dX12_isAgreedAt_37 : decode cX12_isAgreedAt 37 = .ok (.if_icmp .ne 41, 3) := by decide +kernel
theorem dX12_isAgreedAt_40 : decode cX12_isAgreedAt 40 = .ok (.aload_n 0, 1) := by decide +kernel
theorem dX12_isAgreedAt_41 : decode cX12_isAgreedAt 41 = .ok (.getfield 51, 3) := by decide +kernel
theorem dX12_isAgreedAt_44 : decode cX12_isAgreedAt 44 = .ok (.iload_n 3, 1) := by decide +kernel
theorem dX12_isAgreedAt_45 : decode cX12_isAgreedAt 45 = .ok (.iaload, 1) := by decide +kernel
theorem dX12_isAgreedAt_46 : decode cX12_isAgreedAt 46 = .ok (.aload_n 0, 1) := by decide +kernel
theorem dX12_isAgreedAt_47 : decode cX12_isAgreedAt 47 = .ok (.getfield 126, 3) := by decide +kernel
theorem dX12_isAgreedAt_50 : decode cX12_isAgreedAt 50 = .ok (.iload_n 1, 1) := by decide +kernel
theorem dX12_isAgreedAt_51 : decode cX12_isAgreedAt 51 = .ok (.iaload, 1) := by decide +kernel
theorem dX12_isAgreedAt_52 : decode cX12_isAgreedAt 52 = .ok (.if_icmp .ne 20, 3) := by decide +kernel
theorem dX12_isAgreedAt_55 : decode cX12_isAgreedAt 55 = .ok (.aload_n 0, 1) := by decide +kernel
theorem dX12_isAgreedAt_56 : decode cX12_isAgreedAt 56 = .ok (.getfield 54, 3) := by decide +kernel
theorem dX12_isAgreedAt_59 : decode cX12_isAgreedAt 59 = .ok (.iload_n 3, 1) := by decide +kernel
theorem dX12_isAgreedAt_60 : decode cX12_isAgreedAt 60 = .ok (.iaload, 1) := by decide +kernel
theorem dX12_isAgreedAt_61 : decode cX12_isAgreedAt 61 = .ok (.aload_n 0, 1) := by decide +kernel
theorem dX12_isAgreedAt_62 : decode cX12_isAgreedAt 62 = .ok (.getfield 129, 3) := by decide +kernel
theorem dX12_isAgreedAt_65 : decode cX12_isAgreedAt 65 = .ok (.iload_n 1, 1) := by decide +kernel
theorem dX12_isAgreedAt_66 : decode cX12_isAgreedAt 66 = .ok (.iaload, 1) := by decide +kernel
theorem dX12_isAgreedAt_67 : decode cX12_isAgreedAt 67 = .ok (.if_icmp .ne 5, 3) := by decide +kernel
theorem dX12_isAgreedAt_70 : decode cX12_isAgreedAt 70 = .ok (.iconst 1, 1) := by decide +kernel
theorem dX12_isAgreedAt_71 : decode cX12_isAgreedAt 71 = .ok (.ireturn, 1) := by decide +kernel
theorem dX12_isAgreedAt_72 : decode cX12_isAgreedAt 72 = .ok (.iinc 3 1, 3) := by decide +kernel
theorem dX12_isAgreedAt_75 : decode cX12_isAgreedAt 75 = .ok (.goto (-60), 3) := by decide +kernel
theorem dX12_isAgreedAt_78 : decode cX12_isAgreedAt 78 = .ok (.iinc 2 1, 3) := by decide +kernel
theorem dX12_isAgreedAt_81 : decode cX12_isAgreedAt 81 = .ok (.goto (-79), 3) := by decide +kernel
theorem dX12_isAgreedAt_84 : decode cX12_isAgreedAt 84 = .ok (.iconst 0, 1) := by decide +kernel
theorem dX12_isAgreedAt_85 : decode cX12_isAgreedAt 85 = .ok (.ireturn, 1) := by decide +kernel
theorem dX12_follows_0 : decode cX12_follows 0 = .ok (.aload_n 0, 1) := by decide +kernel
theorem dX12_follows_1 : decode cX12_follows 1 = .ok (.getfield 39, 3) := by decide +kernel
theorem dX12_follows_4 : decode cX12_follows 4 = .ok (.iload_n 1, 1) := by decide +kernel
theorem dX12_follows_5 : decode cX12_follows 5 = .ok (.iconst 0, 1) := by decide +kernel
theorem dX12_follows_6 : decode cX12_follows 6 = .ok (.iastore, 1) := by decide +kernel
theorem dX12_follows_7 : decode cX12_follows 7 = .ok (.aload_n 0, 1) := by decide +kernel
theorem dX12_follows_8 : decode cX12_follows 8 = .ok (.getfield 75, 3) := by decide +kernel
theorem dX12_follows_11 : decode cX12_follows 11 = .ok (.iload_n 1, 1) := by decide +kernel
theorem dX12_follows_12 : decode cX12_follows 12 = .ok (.iconst 0, 1) := by decide +kernel
theorem dX12_follows_13 : decode cX12_follows 13 = .ok (.bastore, 1) := by decide +kernel
theorem dX12_follows_14 : decode cX12_follows 14 = .ok (.return_, 1) := by decide +kernel
theorem dX12_toggle_0 : decode cX12_toggle 0 = .ok (.aload_n 0, 1) := by decide +kernel
theorem dX12_toggle_1 : decode cX12_toggle 1 = .ok (.aload_n 0, 1) := by decide +kernel
theorem dX12_toggle_2 : decode cX12_toggle 2 = .ok (.iload_n 1, 1) := by decide +kernel
theorem dX12_toggle_3 : decode cX12_toggle 3 = .ok (.invokevirtual 181, 3) := by decide +kernel
theorem dX12_toggle_6 : decode cX12_toggle 6 = .ok (.iconst 1, 1) := by decide +kernel
theorem dX12_toggle_7 : decode cX12_toggle 7 = .ok (.iconst 1, 1) := by decide +kernel
theorem dX12_toggle_8 : decode cX12_toggle 8 = .ok (.invokevirtual 173, 3) := by decide +kernel
theorem dX12_toggle_11 : decode cX12_toggle 11 = .ok (.ifCond .ne 5, 3) := by decide +kernel
theorem dX12_toggle_14 : decode cX12_toggle 14 = .ok (.iconst 0, 1) := by decide +kernel
theorem dX12_toggle_15 : decode cX12_toggle 15 = .ok (.ireturn, 1) := by decide +kernel
theorem dX12_toggle_16 : decode cX12_toggle 16 = .ok (.aload_n 0, 1) := by decide +kernel
theorem dX12_toggle_17 : decode cX12_toggle 17 = .ok (.dup, 1) := by decide +kernel
theorem dX12_toggle_18 : decode cX12_toggle 18 = .ok (.getfield 164, 3) := by decide +kernel
theorem dX12_toggle_21 : decode cX12_toggle 21 = .ok (.iconst 1, 1) := by decide +kernel
theorem dX12_toggle_22 : decode cX12_toggle 22 = .ok (.iadd, 1) := by decide +kernel
theorem dX12_toggle_23 : decode cX12_toggle 23 = .ok (.putfield 164, 3) := by decide +kernel
theorem dX12_toggle_26 : decode cX12_toggle 26 = .ok (.aload_n 0, 1) := by decide +kernel
theorem dX12_toggle_27 : decode cX12_toggle 27 = .ok (.getfield 18, 3) := by decide +kernel
theorem dX12_toggle_30 : decode cX12_toggle 30 = .ok (.iload_n 1, 1) := by decide +kernel
theorem dX12_toggle_31 : decode cX12_toggle 31 = .ok (.aload_n 0, 1) := by decide +kernel
theorem dX12_toggle_32 : decode cX12_toggle 32 = .ok (.getfield 18, 3) := by decide +kernel
theorem dX12_toggle_35 : decode cX12_toggle 35 = .ok (.iload_n 1, 1) := by decide +kernel
theorem dX12_toggle_36 : decode cX12_toggle 36 = .ok (.baload, 1) := by decide +kernel
theorem dX12_toggle_37 : decode cX12_toggle 37 = .ok (.ifCond .ne 7, 3) := by decide +kernel
theorem dX12_toggle_40 : decode cX12_toggle 40 = .ok (.iconst 1, 1) := by decide +kernel
theorem dX12_toggle_41 : decode cX12_toggle 41 = .ok (.goto 4, 3) := by decide +kernel
theorem dX12_toggle_44 : decode cX12_toggle 44 = .ok (.iconst 0, 1) := by decide +kernel
theorem dX12_toggle_45 : decode cX12_toggle 45 = .ok (.bastore, 1) := by decide +kernel
theorem dX12_toggle_46 : decode cX12_toggle 46 = .ok (.aload_n 0, 1) := by decide +kernel
theorem dX12_toggle_47 : decode cX12_toggle 47 = .ok (.getfield 18, 3) := by decide +kernel
theorem dX12_toggle_50 : decode cX12_toggle 50 = .ok (.iload_n 1, 1) := by decide +kernel
theorem dX12_toggle_51 : decode cX12_toggle 51 = .ok (.baload, 1) := by decide +kernel
theorem dX12_toggle_52 : decode cX12_toggle 52 = .ok (.ifCond .eq 30, 3) := by decide +kernel
theorem dX12_toggle_55 : decode cX12_toggle 55 = .ok (.aload_n 0, 1) := by decide +kernel
theorem dX12_toggle_56 : decode cX12_toggle 56 = .ok (.getfield 81, 3) := by decide +kernel
theorem dX12_toggle_59 : decode cX12_toggle 59 = .ok (.iload_n 1, 1) := by decide +kernel
theorem dX12_toggle_60 : decode cX12_toggle 60 = .ok (.iload_n 1, 1) := by decide +kernel
theorem dX12_toggle_61 : decode cX12_toggle 61 = .ok (.iastore, 1) := by decide +kernel
theorem dX12_toggle_62 : decode cX12_toggle 62 = .ok (.aload_n 0, 1) := by decide +kernel
theorem dX12_toggle_63 : decode cX12_toggle 63 = .ok (.getfield 84, 3) := by decide +kernel
theorem dX12_toggle_66 : decode cX12_toggle 66 = .ok (.iload_n 1, 1) := by decide +kernel
theorem dX12_toggle_67 : decode cX12_toggle 67 = .ok (.aload_n 0, 1) := by decide +kernel
theorem dX12_toggle_68 : decode cX12_toggle 68 = .ok (.getfield 25, 3) := by decide +kernel
theorem dX12_toggle_71 : decode cX12_toggle 71 = .ok (.iload_n 1, 1) := by decide +kernel
theorem dX12_toggle_72 : decode cX12_toggle 72 = .ok (.faload, 1) := by decide +kernel
theorem dX12_toggle_73 : decode cX12_toggle 73 = .ok (.aload_n 0, 1) := by decide +kernel
theorem dX12_toggle_74 : decode cX12_toggle 74 = .ok (.getfield 14, 3) := by decide +kernel
theorem dX12_toggle_77 : decode cX12_toggle 77 = .ok (.fadd, 1) := by decide +kernel
theorem dX12_toggle_78 : decode cX12_toggle 78 = .ok (.fastore, 1) := by decide +kernel
theorem dX12_toggle_79 : decode cX12_toggle 79 = .ok (.goto 41, 3) := by decide +kernel
theorem dX12_toggle_82 : decode cX12_toggle 82 = .ok (.aload_n 0, 1) := by decide +kernel
theorem dX12_toggle_83 : decode cX12_toggle 83 = .ok (.iload_n 1, 1) := by decide +kernel
theorem dX12_toggle_84 : decode cX12_toggle 84 = .ok (.invokevirtual 184, 3) := by decide +kernel
theorem dX12_toggle_87 : decode cX12_toggle 87 = .ok (.aload_n 0, 1) := by decide +kernel
theorem dX12_toggle_88 : decode cX12_toggle 88 = .ok (.getfield 45, 3) := by decide +kernel
theorem dX12_toggle_91 : decode cX12_toggle 91 = .ok (.iload_n 1, 1) := by decide +kernel
theorem dX12_toggle_92 : decode cX12_toggle 92 = .ok (.iconst 0, 1) := by decide +kernel
theorem dX12_toggle_93 : decode cX12_toggle 93 = .ok (.iastore, 1) := by decide +kernel
theorem dX12_toggle_94 : decode cX12_toggle 94 = .ok (.iconst 4, 1) := by decide +kernel
theorem dX12_toggle_95 : decode cX12_toggle 95 = .ok (.iload_n 1, 1) := by decide +kernel
theorem dX12_toggle_96 : decode cX12_toggle 96 = .ok (.imul, 1) := by decide +kernel
theorem dX12_toggle_97 : decode cX12_toggle 97 = .ok (.istore_n 2, 1) := by decide +kernel
theorem dX12_toggle_98 : decode cX12_toggle 98 = .ok (.iload_n 2, 1) := by decide +kernel
theorem dX12_toggle_99 : decode cX12_toggle 99 = .ok (.iconst 4, 1) := by decide +kernel
theorem dX12_toggle_100 : decode cX12_toggle 100 = .ok (.iload_n 1, 1) := by decide +kernel
theorem dX12_toggle_101 : decode cX12_toggle 101 = .ok (.imul, 1) := by decide +kernel
theorem dX12_toggle_102 : decode cX12_toggle 102 = .ok (.iconst 4, 1) := by decide +kernel
theorem dX12_toggle_103 : decode cX12_toggle 103 = .ok (.iadd, 1) := by decide +kernel
theorem dX12_toggle_104 : decode cX12_toggle 104 = .ok (.if_icmp .ge 16, 3) := by decide +kernel
theorem dX12_toggle_107 : decode cX12_toggle 107 = .ok (.aload_n 0, 1) := by decide +kernel
theorem dX12_toggle_108 : decode cX12_toggle 108 = .ok (.getfield 99, 3) := by decide +kernel
theorem dX12_toggle_111 : decode cX12_toggle 111 = .ok (.iload_n 2, 1) := by decide +kernel
theorem dX12_toggle_112 : decode cX12_toggle 112 = .ok (.iconst (-1), 1) := by decide +kernel
theorem dX12_toggle_113 : decode cX12_toggle 113 = .ok (.iastore, 1) := by decide +kernel
theorem dX12_toggle_114 : decode cX12_toggle 114 = .ok (.iinc 2 1, 3) := by decide +kernel
theorem dX12_toggle_117 : decode cX12_toggle 117 = .ok (.goto (-19), 3) := by decide +kernel
theorem dX12_toggle_120 : decode cX12_toggle 120 = .ok (.aload_n 0, 1) := by decide +kernel
theorem dX12_toggle_121 : decode cX12_toggle 121 = .ok (.invokevirtual 187, 3) := by decide +kernel
theorem dX12_toggle_124 : decode cX12_toggle 124 = .ok (.aload_n 0, 1) := by decide +kernel
theorem dX12_toggle_125 : decode cX12_toggle 125 = .ok (.getfield 18, 3) := by decide +kernel
theorem dX12_toggle_128 : decode cX12_toggle 128 = .ok (.iload_n 1, 1) := by decide +kernel
theorem dX12_toggle_129 : decode cX12_toggle 129 = .ok (.baload, 1) := by decide +kernel
theorem dX12_toggle_130 : decode cX12_toggle 130 = .ok (.ireturn, 1) := by decide +kernel
theorem dX12_cut_0 : decode cX12_cut 0 = .ok (.aload_n 0, 1) := by decide +kernel
theorem dX12_cut_1 : decode cX12_cut 1 = .ok (.aload_n 0, 1) := by decide +kernel
theorem dX12_cut_2 : decode cX12_cut 2 = .ok (.iload_n 1, 1) := by decide +kernel
theorem dX12_cut_3 : decode cX12_cut 3 = .ok (.invokevirtual 181, 3) := by decide +kernel
theorem dX12_cut_6 : decode cX12_cut 6 = .ok (.ifCond .eq 15, 3) := by decide +kernel
theorem dX12_cut_9 : decode cX12_cut 9 = .ok (.aload_n 0, 1) := by decide +kernel
theorem dX12_cut_10 : decode cX12_cut 10 = .ok (.iload_n 2, 1) := by decide +kernel
theorem dX12_cut_11 : decode cX12_cut 11 = .ok (.invokevirtual 181, 3) := by decide +kernel
theorem dX12_cut_14 : decode cX12_cut 14 = .ok (.ifCond .eq 7, 3) := by decide +kernel
theorem dX12_cut_17 : decode cX12_cut 17 = .ok (.iconst 1, 1) := by decide +kernel
theorem dX12_cut_18 : decode cX12_cut 18 = .ok (.goto 4, 3) := by decide +kernel
theorem dX12_cut_21 : decode cX12_cut 21 = .ok (.iconst 0, 1) := by decide +kernel
theorem dX12_cut_22 : decode cX12_cut 22 = .ok (.iload_n 1, 1) := by decide +kernel
theorem dX12_cut_23 : decode cX12_cut 23 = .ok (.iload_n 2, 1) := by decide +kernel
theorem dX12_cut_24 : decode cX12_cut 24 = .ok (.if_icmp .eq 7, 3) := by decide +kernel
theorem dX12_cut_27 : decode cX12_cut 27 = .ok (.iconst 1, 1) := by decide +kernel
theorem dX12_cut_28 : decode cX12_cut 28 = .ok (.goto 4, 3) := by decide +kernel
theorem dX12_cut_31 : decode cX12_cut 31 = .ok (.iconst 0, 1) := by decide +kernel
theorem dX12_cut_32 : decode cX12_cut 32 = .ok (.iconst 1, 1) := by decide +kernel
theorem dX12_cut_33 : decode cX12_cut 33 = .ok (.invokevirtual 173, 3) := by decide +kernel
theorem dX12_cut_36 : decode cX12_cut 36 = .ok (.ifCond .ne 5, 3) := by decide +kernel
theorem dX12_cut_39 : decode cX12_cut 39 = .ok (.iconst 0, 1) := by decide +kernel
theorem dX12_cut_40 : decode cX12_cut 40 = .ok (.ireturn, 1) := by decide +kernel
theorem dX12_cut_41 : decode cX12_cut 41 = .ok (.aload_n 0, 1) := by decide +kernel
theorem dX12_cut_42 : decode cX12_cut 42 = .ok (.dup, 1) := by decide +kernel
theorem dX12_cut_43 : decode cX12_cut 43 = .ok (.getfield 164, 3) := by decide +kernel
theorem dX12_cut_46 : decode cX12_cut 46 = .ok (.iconst 1, 1) := by decide +kernel
theorem dX12_cut_47 : decode cX12_cut 47 = .ok (.iadd, 1) := by decide +kernel
theorem dX12_cut_48 : decode cX12_cut 48 = .ok (.putfield 164, 3) := by decide +kernel
theorem dX12_cut_51 : decode cX12_cut 51 = .ok (.aload_n 0, 1) := by decide +kernel
theorem dX12_cut_52 : decode cX12_cut 52 = .ok (.getfield 22, 3) := by decide +kernel
theorem dX12_cut_55 : decode cX12_cut 55 = .ok (.iconst 5, 1) := by decide +kernel
theorem dX12_cut_56 : decode cX12_cut 56 = .ok (.iload_n 1, 1) := by decide +kernel
theorem dX12_cut_57 : decode cX12_cut 57 = .ok (.imul, 1) := by decide +kernel
theorem dX12_cut_58 : decode cX12_cut 58 = .ok (.iload_n 2, 1) := by decide +kernel
theorem dX12_cut_59 : decode cX12_cut 59 = .ok (.iadd, 1) := by decide +kernel
theorem dX12_cut_60 : decode cX12_cut 60 = .ok (.aload_n 0, 1) := by decide +kernel
theorem dX12_cut_61 : decode cX12_cut 61 = .ok (.getfield 22, 3) := by decide +kernel
theorem dX12_cut_64 : decode cX12_cut 64 = .ok (.iconst 5, 1) := by decide +kernel
theorem dX12_cut_65 : decode cX12_cut 65 = .ok (.iload_n 1, 1) := by decide +kernel
theorem dX12_cut_66 : decode cX12_cut 66 = .ok (.imul, 1) := by decide +kernel
theorem dX12_cut_67 : decode cX12_cut 67 = .ok (.iload_n 2, 1) := by decide +kernel
theorem dX12_cut_68 : decode cX12_cut 68 = .ok (.iadd, 1) := by decide +kernel
theorem dX12_cut_69 : decode cX12_cut 69 = .ok (.baload, 1) := by decide +kernel
theorem dX12_cut_70 : decode cX12_cut 70 = .ok (.ifCond .ne 7, 3) := by decide +kernel
theorem dX12_cut_73 : decode cX12_cut 73 = .ok (.iconst 1, 1) := by decide +kernel
theorem dX12_cut_74 : decode cX12_cut 74 = .ok (.goto 4, 3) := by decide +kernel
theorem dX12_cut_77 : decode cX12_cut 77 = .ok (.iconst 0, 1) := by decide +kernel
theorem dX12_cut_78 : decode cX12_cut 78 = .ok (.bastore, 1) := by decide +kernel
theorem dX12_cut_79 : decode cX12_cut 79 = .ok (.aload_n 0, 1) := by decide +kernel
theorem dX12_cut_80 : decode cX12_cut 80 = .ok (.getfield 22, 3) := by decide +kernel
theorem dX12_cut_83 : decode cX12_cut 83 = .ok (.iconst 5, 1) := by decide +kernel
theorem dX12_cut_84 : decode cX12_cut 84 = .ok (.iload_n 2, 1) := by decide +kernel
theorem dX12_cut_85 : decode cX12_cut 85 = .ok (.imul, 1) := by decide +kernel
theorem dX12_cut_86 : decode cX12_cut 86 = .ok (.iload_n 1, 1) := by decide +kernel
theorem dX12_cut_87 : decode cX12_cut 87 = .ok (.iadd, 1) := by decide +kernel
theorem dX12_cut_88 : decode cX12_cut 88 = .ok (.aload_n 0, 1) := by decide +kernel
theorem dX12_cut_89 : decode cX12_cut 89 = .ok (.getfield 22, 3) := by decide +kernel
theorem dX12_cut_92 : decode cX12_cut 92 = .ok (.iconst 5, 1) := by decide +kernel
theorem dX12_cut_93 : decode cX12_cut 93 = .ok (.iload_n 1, 1) := by decide +kernel
theorem dX12_cut_94 : decode cX12_cut 94 = .ok (.imul, 1) := by decide +kernel
theorem dX12_cut_95 : decode cX12_cut 95 = .ok (.iload_n 2, 1) := by decide +kernel
theorem dX12_cut_96 : decode cX12_cut 96 = .ok (.iadd, 1) := by decide +kernel
theorem dX12_cut_97 : decode cX12_cut 97 = .ok (.baload, 1) := by decide +kernel
theorem dX12_cut_98 : decode cX12_cut 98 = .ok (.bastore, 1) := by decide +kernel
theorem dX12_cut_99 : decode cX12_cut 99 = .ok (.aload_n 0, 1) := by decide +kernel
theorem dX12_cut_100 : decode cX12_cut 100 = .ok (.getfield 22, 3) := by decide +kernel
theorem dX12_cut_103 : decode cX12_cut 103 = .ok (.iconst 5, 1) := by decide +kernel
theorem dX12_cut_104 : decode cX12_cut 104 = .ok (.iload_n 1, 1) := by decide +kernel
theorem dX12_cut_105 : decode cX12_cut 105 = .ok (.imul, 1) := by decide +kernel
theorem dX12_cut_106 : decode cX12_cut 106 = .ok (.iload_n 2, 1) := by decide +kernel
theorem dX12_cut_107 : decode cX12_cut 107 = .ok (.iadd, 1) := by decide +kernel
theorem dX12_cut_108 : decode cX12_cut 108 = .ok (.baload, 1) := by decide +kernel
theorem dX12_cut_109 : decode cX12_cut 109 = .ok (.ireturn, 1) := by decide +kernel
theorem dX12_rate_0 : decode cX12_rate 0 = .ok (.aload_n 0, 1) := by decide +kernel
theorem dX12_rate_1 : decode cX12_rate 1 = .ok (.aload_n 0, 1) := by decide +kernel
theorem dX12_rate_2 : decode cX12_rate 2 = .ok (.iload_n 1, 1) := by decide +kernel
theorem dX12_rate_3 : decode cX12_rate 3 = .ok (.invokevirtual 181, 3) := by decide +kernel
theorem dX12_rate_6 : decode cX12_rate 6 = .ok (.iload_n 2, 1) := by decide +kernel
theorem dX12_rate_7 : decode cX12_rate 7 = .ok (.sipush 500, 3) := by decide +kernel
theorem dX12_rate_10 : decode cX12_rate 10 = .ok (.sipush 1500, 3) := by decide +kernel
theorem dX12_rate_13 : decode cX12_rate 13 = .ok (.invokestatic 154, 3) := by decide +kernel
theorem dX12_rate_16 : decode cX12_rate 16 = .ok (.iconst 1, 1) := by decide +kernel
theorem dX12_rate_17 : decode cX12_rate 17 = .ok (.invokevirtual 173, 3) := by decide +kernel
theorem dX12_rate_20 : decode cX12_rate 20 = .ok (.ifCond .ne 5, 3) := by decide +kernel
theorem dX12_rate_23 : decode cX12_rate 23 = .ok (.fconst 0, 1) := by decide +kernel
theorem dX12_rate_24 : decode cX12_rate 24 = .ok (.freturn, 1) := by decide +kernel
theorem dX12_rate_25 : decode cX12_rate 25 = .ok (.aload_n 0, 1) := by decide +kernel
theorem dX12_rate_26 : decode cX12_rate 26 = .ok (.dup, 1) := by decide +kernel
theorem dX12_rate_27 : decode cX12_rate 27 = .ok (.getfield 164, 3) := by decide +kernel
theorem dX12_rate_30 : decode cX12_rate 30 = .ok (.iconst 1, 1) := by decide +kernel
theorem dX12_rate_31 : decode cX12_rate 31 = .ok (.iadd, 1) := by decide +kernel
theorem dX12_rate_32 : decode cX12_rate 32 = .ok (.putfield 164, 3) := by decide +kernel
theorem dX12_rate_35 : decode cX12_rate 35 = .ok (.aload_n 0, 1) := by decide +kernel
theorem dX12_rate_36 : decode cX12_rate 36 = .ok (.getfield 29, 3) := by decide +kernel
theorem dX12_rate_39 : decode cX12_rate 39 = .ok (.iload_n 1, 1) := by decide +kernel
theorem dX12_rate_40 : decode cX12_rate 40 = .ok (.iload_n 2, 1) := by decide +kernel
theorem dX12_rate_41 : decode cX12_rate 41 = .ok (.i2f, 1) := by decide +kernel
theorem dX12_rate_42 : decode cX12_rate 42 = .ok (.ldc 190, 2) := by decide +kernel
theorem dX12_rate_44 : decode cX12_rate 44 = .ok (.fdiv, 1) := by decide +kernel
theorem dX12_rate_45 : decode cX12_rate 45 = .ok (.fastore, 1) := by decide +kernel
theorem dX12_rate_46 : decode cX12_rate 46 = .ok (.aload_n 0, 1) := by decide +kernel
theorem dX12_rate_47 : decode cX12_rate 47 = .ok (.getfield 25, 3) := by decide +kernel
theorem dX12_rate_50 : decode cX12_rate 50 = .ok (.iload_n 1, 1) := by decide +kernel
theorem dX12_rate_51 : decode cX12_rate 51 = .ok (.faload, 1) := by decide +kernel
theorem dX12_rate_52 : decode cX12_rate 52 = .ok (.freturn, 1) := by decide +kernel
theorem dX12_spans_0 : decode cX12_spans 0 = .ok (.aload_n 0, 1) := by decide +kernel
theorem dX12_spans_1 : decode cX12_spans 1 = .ok (.iload_n 1, 1) := by decide +kernel
theorem dX12_spans_2 : decode cX12_spans 2 = .ok (.iconst 1, 1) := by decide +kernel
theorem dX12_spans_3 : decode cX12_spans 3 = .ok (.sipush 1000, 3) := by decide +kernel
theorem dX12_spans_6 : decode cX12_spans 6 = .ok (.invokestatic 154, 3) := by decide +kernel
theorem dX12_spans_9 : decode cX12_spans 9 = .ok (.ifCond .eq 17, 3) := by decide +kernel
theorem dX12_spans_12 : decode cX12_spans 12 = .ok (.iload_n 2, 1) := by decide +kernel
theorem dX12_spans_13 : decode cX12_spans 13 = .ok (.iconst 0, 1) := by decide +kernel
theorem dX12_spans_14 : decode cX12_spans 14 = .ok (.bipush 90, 2) := by decide +kernel
theorem dX12_spans_16 : decode cX12_spans 16 = .ok (.invokestatic 154, 3) := by decide +kernel
theorem dX12_spans_19 : decode cX12_spans 19 = .ok (.ifCond .eq 7, 3) := by decide +kernel
theorem dX12_spans_22 : decode cX12_spans 22 = .ok (.iconst 1, 1) := by decide +kernel
theorem dX12_spans_23 : decode cX12_spans 23 = .ok (.goto 4, 3) := by decide +kernel
theorem dX12_spans_26 : decode cX12_spans 26 = .ok (.iconst 0, 1) := by decide +kernel
theorem dX12_spans_27 : decode cX12_spans 27 = .ok (.iconst 1, 1) := by decide +kernel
theorem dX12_spans_28 : decode cX12_spans 28 = .ok (.iconst 1, 1) := by decide +kernel
theorem dX12_spans_29 : decode cX12_spans 29 = .ok (.invokevirtual 173, 3) := by decide +kernel
theorem dX12_spans_32 : decode cX12_spans 32 = .ok (.ifCond .eq 31, 3) := by decide +kernel
theorem dX12_spans_35 : decode cX12_spans 35 = .ok (.aload_n 0, 1) := by decide +kernel
theorem dX12_spans_36 : decode cX12_spans 36 = .ok (.dup, 1) := by decide +kernel
theorem dX12_spans_37 : decode cX12_spans 37 = .ok (.getfield 164, 3) := by decide +kernel
theorem dX12_spans_40 : decode cX12_spans 40 = .ok (.iconst 1, 1) := by decide +kernel
theorem dX12_spans_41 : decode cX12_spans 41 = .ok (.iadd, 1) := by decide +kernel
theorem dX12_spans_42 : decode cX12_spans 42 = .ok (.putfield 164, 3) := by decide +kernel
theorem dX12_spans_45 : decode cX12_spans 45 = .ok (.aload_n 0, 1) := by decide +kernel
theorem dX12_spans_46 : decode cX12_spans 46 = .ok (.iload_n 1, 1) := by decide +kernel
theorem dX12_spans_47 : decode cX12_spans 47 = .ok (.i2f, 1) := by decide +kernel
theorem dX12_spans_48 : decode cX12_spans 48 = .ok (.ldc 13, 2) := by decide +kernel
theorem dX12_spans_50 : decode cX12_spans 50 = .ok (.fdiv, 1) := by decide +kernel
theorem dX12_spans_51 : decode cX12_spans 51 = .ok (.putfield 14, 3) := by decide +kernel
theorem dX12_spans_54 : decode cX12_spans 54 = .ok (.aload_n 0, 1) := by decide +kernel
theorem dX12_spans_55 : decode cX12_spans 55 = .ok (.iload_n 2, 1) := by decide +kernel
theorem dX12_spans_56 : decode cX12_spans 56 = .ok (.i2f, 1) := by decide +kernel
theorem dX12_spans_57 : decode cX12_spans 57 = .ok (.ldc 191, 2) := by decide +kernel
theorem dX12_spans_59 : decode cX12_spans 59 = .ok (.fdiv, 1) := by decide +kernel
theorem dX12_spans_60 : decode cX12_spans 60 = .ok (.putfield 161, 3) := by decide +kernel
theorem dX12_spans_63 : decode cX12_spans 63 = .ok (.return_, 1) := by decide +kernel
theorem dX12_pass_0 : decode cX12_pass 0 = .ok (.aload_n 0, 1) := by decide +kernel
theorem dX12_pass_1 : decode cX12_pass 1 = .ok (.iload_n 1, 1) := by decide +kernel
theorem dX12_pass_2 : decode cX12_pass 2 = .ok (.iconst 1, 1) := by decide +kernel
theorem dX12_pass_3 : decode cX12_pass 3 = .ok (.sipush 1000, 3) := by decide +kernel
theorem dX12_pass_6 : decode cX12_pass 6 = .ok (.invokestatic 154, 3) := by decide +kernel
theorem dX12_pass_9 : decode cX12_pass 9 = .ok (.iconst 1, 1) := by decide +kernel
theorem dX12_pass_10 : decode cX12_pass 10 = .ok (.iconst 1, 1) := by decide +kernel
theorem dX12_pass_11 : decode cX12_pass 11 = .ok (.invokevirtual 173, 3) := by decide +kernel
theorem dX12_pass_14 : decode cX12_pass 14 = .ok (.ifCond .ne 5, 3) := by decide +kernel
theorem dX12_pass_17 : decode cX12_pass 17 = .ok (.fconst 0, 1) := by decide +kernel
theorem dX12_pass_18 : decode cX12_pass 18 = .ok (.freturn, 1) := by decide +kernel
theorem dX12_pass_19 : decode cX12_pass 19 = .ok (.aload_n 0, 1) := by decide +kernel
theorem dX12_pass_20 : decode cX12_pass 20 = .ok (.dup, 1) := by decide +kernel
theorem dX12_pass_21 : decode cX12_pass 21 = .ok (.getfield 164, 3) := by decide +kernel
theorem dX12_pass_24 : decode cX12_pass 24 = .ok (.iconst 1, 1) := by decide +kernel
theorem dX12_pass_25 : decode cX12_pass 25 = .ok (.iadd, 1) := by decide +kernel
theorem dX12_pass_26 : decode cX12_pass 26 = .ok (.putfield 164, 3) := by decide +kernel
theorem dX12_pass_29 : decode cX12_pass 29 = .ok (.iload_n 1, 1) := by decide +kernel
theorem dX12_pass_30 : decode cX12_pass 30 = .ok (.i2f, 1) := by decide +kernel
theorem dX12_pass_31 : decode cX12_pass 31 = .ok (.ldc 13, 2) := by decide +kernel
theorem dX12_pass_33 : decode cX12_pass 33 = .ok (.fdiv, 1) := by decide +kernel
theorem dX12_pass_34 : decode cX12_pass 34 = .ok (.fstore_n 2, 1) := by decide +kernel
theorem dX12_pass_35 : decode cX12_pass 35 = .ok (.aload_n 0, 1) := by decide +kernel
theorem dX12_pass_36 : decode cX12_pass 36 = .ok (.aload_n 0, 1) := by decide +kernel
theorem dX12_pass_37 : decode cX12_pass 37 = .ok (.getfield 158, 3) := by decide +kernel
theorem dX12_pass_40 : decode cX12_pass 40 = .ok (.fload_n 2, 1) := by decide +kernel
theorem dX12_pass_41 : decode cX12_pass 41 = .ok (.fadd, 1) := by decide +kernel
theorem dX12_pass_42 : decode cX12_pass 42 = .ok (.putfield 158, 3) := by decide +kernel
theorem dX12_pass_45 : decode cX12_pass 45 = .ok (.iconst 0, 1) := by decide +kernel
theorem dX12_pass_46 : decode cX12_pass 46 = .ok (.istore_n 3, 1) := by decide +kernel
theorem dX12_pass_47 : decode cX12_pass 47 = .ok (.iload_n 3, 1) := by decide +kernel
theorem dX12_pass_48 : decode cX12_pass 48 = .ok (.aload_n 0, 1) := by decide +kernel
theorem dX12_pass_49 : decode cX12_pass 49 = .ok (.getfield 7, 3) := by decide +kernel
theorem dX12_pass_52 : decode cX12_pass 52 = .ok (.if_icmp .ge 30, 3) := by decide +kernel
theorem dX12_pass_55 : decode cX12_pass 55 = .ok (.aload_n 0, 1) := by decide +kernel
theorem dX12_pass_56 : decode cX12_pass 56 = .ok (.getfield 25, 3) := by decide +kernel
theorem dX12_pass_59 : decode cX12_pass 59 = .ok (.iload_n 3, 1) := by decide +kernel
theorem dX12_pass_60 : decode cX12_pass 60 = .ok (.aload_n 0, 1) := by decide +kernel
theorem dX12_pass_61 : decode cX12_pass 61 = .ok (.getfield 25, 3) := by decide +kernel
theorem dX12_pass_64 : decode cX12_pass 64 = .ok (.iload_n 3, 1) := by decide +kernel
theorem dX12_pass_65 : decode cX12_pass 65 = .ok (.faload, 1) := by decide +kernel
theorem dX12_pass_66 : decode cX12_pass 66 = .ok (.fload_n 2, 1) := by decide +kernel
theorem dX12_pass_67 : decode cX12_pass 67 = .ok (.aload_n 0, 1) := by decide +kernel
theorem dX12_pass_68 : decode cX12_pass 68 = .ok (.getfield 29, 3) := by decide +kernel
theorem dX12_pass_71 : decode cX12_pass 71 = .ok (.iload_n 3, 1) := by decide +kernel
theorem dX12_pass_72 : decode cX12_pass 72 = .ok (.faload, 1) := by decide +kernel
theorem dX12_pass_73 : decode cX12_pass 73 = .ok (.fmul, 1) := by decide +kernel
theorem dX12_pass_74 : decode cX12_pass 74 = .ok (.fadd, 1) := by decide +kernel
theorem dX12_pass_75 : decode cX12_pass 75 = .ok (.fastore, 1) := by decide +kernel
theorem dX12_pass_76 : decode cX12_pass 76 = .ok (.iinc 3 1, 3) := by decide +kernel
theorem dX12_pass_79 : decode cX12_pass 79 = .ok (.goto (-32), 3) := by decide +kernel
theorem dX12_pass_82 : decode cX12_pass 82 = .ok (.aload_n 0, 1) := by decide +kernel
theorem dX12_pass_83 : decode cX12_pass 83 = .ok (.getfield 158, 3) := by decide +kernel
theorem dX12_pass_86 : decode cX12_pass 86 = .ok (.freturn, 1) := by decide +kernel
theorem dX12_sends_0 : decode cX12_sends 0 = .ok (.aload_n 0, 1) := by decide +kernel
theorem dX12_sends_1 : decode cX12_sends 1 = .ok (.dup, 1) := by decide +kernel
theorem dX12_sends_2 : decode cX12_sends 2 = .ok (.getfield 192, 3) := by decide +kernel
theorem dX12_sends_5 : decode cX12_sends 5 = .ok (.iconst 1, 1) := by decide +kernel
theorem dX12_sends_6 : decode cX12_sends 6 = .ok (.iadd, 1) := by decide +kernel
theorem dX12_sends_7 : decode cX12_sends 7 = .ok (.putfield 192, 3) := by decide +kernel
theorem dX12_sends_10 : decode cX12_sends 10 = .ok (.aload_n 0, 1) := by decide +kernel
theorem dX12_sends_11 : decode cX12_sends 11 = .ok (.getfield 167, 3) := by decide +kernel
theorem dX12_sends_14 : decode cX12_sends 14 = .ok (.bipush 60, 2) := by decide +kernel
theorem dX12_sends_16 : decode cX12_sends 16 = .ok (.if_icmp .ge 13, 3) := by decide +kernel
theorem dX12_sends_19 : decode cX12_sends 19 = .ok (.bipush 24, 2) := by decide +kernel
theorem dX12_sends_21 : decode cX12_sends 21 = .ok (.aload_n 0, 1) := by decide +kernel
theorem dX12_sends_22 : decode cX12_sends 22 = .ok (.getfield 167, 3) := by decide +kernel
theorem dX12_sends_25 : decode cX12_sends 25 = .ok (.imul, 1) := by decide +kernel
theorem dX12_sends_26 : decode cX12_sends 26 = .ok (.goto 4, 3) := by decide +kernel
theorem dX12_sends_29 : decode cX12_sends 29 = .ok (.iconst (-1), 1) := by decide +kernel
theorem dX12_sends_30 : decode cX12_sends 30 = .ok (.istore 5, 2) := by decide +kernel
theorem dX12_sends_32 : decode cX12_sends 32 = .ok (.iload 5, 2) := by decide +kernel
theorem dX12_sends_34 : decode cX12_sends 34 = .ok (.iconst (-1), 1) := by decide +kernel
theorem dX12_sends_35 : decode cX12_sends 35 = .ok (.if_icmp .ne 5, 3) := by decide +kernel
theorem dX12_sends_38 : decode cX12_sends 38 = .ok (.iconst (-1), 1) := by decide +kernel
theorem dX12_sends_39 : decode cX12_sends 39 = .ok (.ireturn, 1) := by decide +kernel
theorem dX12_sends_40 : decode cX12_sends 40 = .ok (.iconst 0, 1) := by decide +kernel
theorem dX12_sends_41 : decode cX12_sends 41 = .ok (.istore 6, 2) := by decide +kernel
theorem dX12_sends_43 : decode cX12_sends 43 = .ok (.iload 6, 2) := by decide +kernel
theorem dX12_sends_45 : decode cX12_sends 45 = .ok (.bipush 24, 2) := by decide +kernel
theorem dX12_sends_47 : decode cX12_sends 47 = .ok (.if_icmp .ge 20, 3) := by decide +kernel
theorem dX12_sends_50 : decode cX12_sends 50 = .ok (.aload_n 0, 1) := by decide +kernel
theorem dX12_sends_51 : decode cX12_sends 51 = .ok (.getfield 117, 3) := by decide +kernel
theorem dX12_sends_54 : decode cX12_sends 54 = .ok (.iload 5, 2) := by decide +kernel
theorem dX12_sends_56 : decode cX12_sends 56 = .ok (.iload 6, 2) := by decide +kernel
theorem dX12_sends_58 : decode cX12_sends 58 = .ok (.iadd, 1) := by decide +kernel
theorem dX12_sends_59 : decode cX12_sends 59 = .ok (.iconst 0, 1) := by decide +kernel
theorem dX12_sends_60 : decode cX12_sends 60 = .ok (.iastore, 1) := by decide +kernel
theorem dX12_sends_61 : decode cX12_sends 61 = .ok (.iinc 6 1, 3) := by decide +kernel
theorem dX12_sends_64 : decode cX12_sends 64 = .ok (.goto (-21), 3) := by decide +kernel
theorem dX12_sends_67 : decode cX12_sends 67 = .ok (.aload_n 0, 1) := by decide +kernel
theorem dX12_sends_68 : decode cX12_sends 68 = .ok (.getfield 120, 3) := by decide +kernel
theorem dX12_sends_71 : decode cX12_sends 71 = .ok (.aload_n 0, 1) := by decide +kernel
theorem dX12_sends_72 : decode cX12_sends 72 = .ok (.getfield 167, 3) := by decide +kernel
theorem dX12_sends_75 : decode cX12_sends 75 = .ok (.fconst 0, 1) := by decide +kernel
theorem dX12_sends_76 : decode cX12_sends 76 = .ok (.fastore, 1) := by decide +kernel
theorem dX12_sends_77 : decode cX12_sends 77 = .ok (.aload_n 0, 1) := by decide +kernel
theorem dX12_sends_78 : decode cX12_sends 78 = .ok (.getfield 117, 3) := by decide +kernel
theorem dX12_sends_81 : decode cX12_sends 81 = .ok (.iload 5, 2) := by decide +kernel
theorem dX12_sends_83 : decode cX12_sends 83 = .ok (.iload_n 1, 1) := by decide +kernel
theorem dX12_sends_84 : decode cX12_sends 84 = .ok (.iastore, 1) := by decide +kernel
theorem dX12_sends_85 : decode cX12_sends 85 = .ok (.aload_n 0, 1) := by decide +kernel
theorem dX12_sends_86 : decode cX12_sends 86 = .ok (.getfield 117, 3) := by decide +kernel
theorem dX12_sends_89 : decode cX12_sends 89 = .ok (.iload 5, 2) := by decide +kernel
theorem dX12_sends_91 : decode cX12_sends 91 = .ok (.iconst 1, 1) := by decide +kernel
theorem dX12_sends_92 : decode cX12_sends 92 = .ok (.iadd, 1) := by decide +kernel
theorem dX12_sends_93 : decode cX12_sends 93 = .ok (.iload_n 2, 1) := by decide +kernel
theorem dX12_sends_94 : decode cX12_sends 94 = .ok (.iastore, 1) := by decide +kernel
theorem dX12_sends_95 : decode cX12_sends 95 = .ok (.aload_n 0, 1) := by decide +kernel
theorem dX12_sends_96 : decode cX12_sends 96 = .ok (.getfield 117, 3) := by decide +kernel
theorem dX12_sends_99 : decode cX12_sends 99 = .ok (.iload 5, 2) := by decide +kernel
theorem dX12_sends_101 : decode cX12_sends 101 = .ok (.iconst 2, 1) := by decide +kernel
theorem dX12_sends_102 : decode cX12_sends 102 = .ok (.iadd, 1) := by decide +kernel
theorem dX12_sends_103 : decode cX12_sends 103 = .ok (.iload_n 3, 1) := by decide +kernel
theorem dX12_sends_104 : decode cX12_sends 104 = .ok (.iastore, 1) := by decide +kernel
theorem dX12_sends_105 : decode cX12_sends 105 = .ok (.aload_n 0, 1) := by decide +kernel
theorem dX12_sends_106 : decode cX12_sends 106 = .ok (.getfield 117, 3) := by decide +kernel
theorem dX12_sends_109 : decode cX12_sends 109 = .ok (.iload 5, 2) := by decide +kernel
theorem dX12_sends_111 : decode cX12_sends 111 = .ok (.iconst 3, 1) := by decide +kernel
theorem dX12_sends_112 : decode cX12_sends 112 = .ok (.iadd, 1) := by decide +kernel
theorem dX12_sends_113 : decode cX12_sends 113 = .ok (.iload 4, 2) := by decide +kernel
theorem dX12_sends_115 : decode cX12_sends 115 = .ok (.iastore, 1) := by decide +kernel
theorem dX12_sends_116 : decode cX12_sends 116 = .ok (.aload_n 0, 1) := by decide +kernel
theorem dX12_sends_117 : decode cX12_sends 117 = .ok (.dup, 1) := by decide +kernel
theorem dX12_sends_118 : decode cX12_sends 118 = .ok (.getfield 167, 3) := by decide +kernel
theorem dX12_sends_121 : decode cX12_sends 121 = .ok (.iconst 1, 1) := by decide +kernel
theorem dX12_sends_122 : decode cX12_sends 122 = .ok (.iadd, 1) := by decide +kernel
theorem dX12_sends_123 : decode cX12_sends 123 = .ok (.putfield 167, 3) := by decide +kernel
theorem dX12_sends_126 : decode cX12_sends 126 = .ok (.iload 5, 2) := by decide +kernel
theorem dX12_sends_128 : decode cX12_sends 128 = .ok (.ireturn, 1) := by decide +kernel
theorem dX12_leaves_0 : decode cX12_leaves 0 = .ok (.bipush 24, 2) := by decide +kernel
theorem dX12_leaves_2 : decode cX12_leaves 2 = .ok (.iload_n 1, 1) := by decide +kernel
theorem dX12_leaves_3 : decode cX12_leaves 3 = .ok (.imul, 1) := by decide +kernel
theorem dX12_leaves_4 : decode cX12_leaves 4 = .ok (.istore_n 2, 1) := by decide +kernel
theorem dX12_leaves_5 : decode cX12_leaves 5 = .ok (.iload_n 2, 1) := by decide +kernel
theorem dX12_leaves_6 : decode cX12_leaves 6 = .ok (.bipush 24, 2) := by decide +kernel
theorem dX12_leaves_8 : decode cX12_leaves 8 = .ok (.aload_n 0, 1) := by decide +kernel
theorem dX12_leaves_9 : decode cX12_leaves 9 = .ok (.getfield 167, 3) := by decide +kernel
theorem dX12_leaves_12 : decode cX12_leaves 12 = .ok (.iconst 1, 1) := by decide +kernel
theorem dX12_leaves_13 : decode cX12_leaves 13 = .ok (.isub, 1) := by decide +kernel
theorem dX12_leaves_14 : decode cX12_leaves 14 = .ok (.imul, 1) := by decide +kernel
theorem dX12_leaves_15 : decode cX12_leaves 15 = .ok (.if_icmp .ge 24, 3) := by decide +kernel
theorem dX12_leaves_18 : decode cX12_leaves 18 = .ok (.aload_n 0, 1) := by decide +kernel
theorem dX12_leaves_19 : decode cX12_leaves 19 = .ok (.getfield 117, 3) := by decide +kernel
theorem dX12_leaves_22 : decode cX12_leaves 22 = .ok (.iload_n 2, 1) := by decide +kernel
theorem dX12_leaves_23 : decode cX12_leaves 23 = .ok (.aload_n 0, 1) := by decide +kernel
theorem dX12_leaves_24 : decode cX12_leaves 24 = .ok (.getfield 117, 3) := by decide +kernel
theorem dX12_leaves_27 : decode cX12_leaves 27 = .ok (.iload_n 2, 1) := by decide +kernel
theorem dX12_leaves_28 : decode cX12_leaves 28 = .ok (.bipush 24, 2) := by decide +kernel
theorem dX12_leaves_30 : decode cX12_leaves 30 = .ok (.iadd, 1) := by decide +kernel
theorem dX12_leaves_31 : decode cX12_leaves 31 = .ok (.iaload, 1) := by decide +kernel
theorem dX12_leaves_32 : decode cX12_leaves 32 = .ok (.iastore, 1) := by decide +kernel
theorem dX12_leaves_33 : decode cX12_leaves 33 = .ok (.iinc 2 1, 3) := by decide +kernel
theorem dX12_leaves_36 : decode cX12_leaves 36 = .ok (.goto (-31), 3) := by decide +kernel
theorem dX12_leaves_39 : decode cX12_leaves 39 = .ok (.iload_n 1, 1) := by decide +kernel
theorem dX12_leaves_40 : decode cX12_leaves 40 = .ok (.istore_n 2, 1) := by decide +kernel
theorem dX12_leaves_41 : decode cX12_leaves 41 = .ok (.iload_n 2, 1) := by decide +kernel
theorem dX12_leaves_42 : decode cX12_leaves 42 = .ok (.aload_n 0, 1) := by decide +kernel
theorem dX12_leaves_43 : decode cX12_leaves 43 = .ok (.getfield 167, 3) := by decide +kernel
theorem dX12_leaves_46 : decode cX12_leaves 46 = .ok (.iconst 1, 1) := by decide +kernel
theorem dX12_leaves_47 : decode cX12_leaves 47 = .ok (.isub, 1) := by decide +kernel
theorem dX12_leaves_48 : decode cX12_leaves 48 = .ok (.if_icmp .ge 23, 3) := by decide +kernel
theorem dX12_leaves_51 : decode cX12_leaves 51 = .ok (.aload_n 0, 1) := by decide +kernel
theorem dX12_leaves_52 : decode cX12_leaves 52 = .ok (.getfield 120, 3) := by decide +kernel
theorem dX12_leaves_55 : decode cX12_leaves 55 = .ok (.iload_n 2, 1) := by decide +kernel
theorem dX12_leaves_56 : decode cX12_leaves 56 = .ok (.aload_n 0, 1) := by decide +kernel
theorem dX12_leaves_57 : decode cX12_leaves 57 = .ok (.getfield 120, 3) := by decide +kernel
theorem dX12_leaves_60 : decode cX12_leaves 60 = .ok (.iload_n 2, 1) := by decide +kernel
theorem dX12_leaves_61 : decode cX12_leaves 61 = .ok (.iconst 1, 1) := by decide +kernel
theorem dX12_leaves_62 : decode cX12_leaves 62 = .ok (.iadd, 1) := by decide +kernel
theorem dX12_leaves_63 : decode cX12_leaves 63 = .ok (.faload, 1) := by decide +kernel
theorem dX12_leaves_64 : decode cX12_leaves 64 = .ok (.fastore, 1) := by decide +kernel
theorem dX12_leaves_65 : decode cX12_leaves 65 = .ok (.iinc 2 1, 3) := by decide +kernel
theorem dX12_leaves_68 : decode cX12_leaves 68 = .ok (.goto (-27), 3) := by decide +kernel
theorem dX12_leaves_71 : decode cX12_leaves 71 = .ok (.aload_n 0, 1) := by decide +kernel
theorem dX12_leaves_72 : decode cX12_leaves 72 = .ok (.dup, 1) := by decide +kernel
theorem dX12_leaves_73 : decode cX12_leaves 73 = .ok (.getfield 167, 3) := by decide +kernel
theorem dX12_leaves_76 : decode cX12_leaves 76 = .ok (.iconst 1, 1) := by decide +kernel
theorem dX12_leaves_77 : decode cX12_leaves 77 = .ok (.isub, 1) := by decide +kernel
theorem dX12_leaves_78 : decode cX12_leaves 78 = .ok (.putfield 167, 3) := by decide +kernel
theorem dX12_leaves_81 : decode cX12_leaves 81 = .ok (.return_, 1) := by decide +kernel
theorem dX12_isMessage_0 : decode cX12_isMessage 0 = .ok (.iload_n 1, 1) := by decide +kernel
theorem dX12_isMessage_1 : decode cX12_isMessage 1 = .ok (.iconst 0, 1) := by decide +kernel
theorem dX12_isMessage_2 : decode cX12_isMessage 2 = .ok (.aload_n 0, 1) := by decide +kernel
theorem dX12_isMessage_3 : decode cX12_isMessage 3 = .ok (.getfield 167, 3) := by decide +kernel
theorem dX12_isMessage_6 : decode cX12_isMessage 6 = .ok (.iconst 1, 1) := by decide +kernel
theorem dX12_isMessage_7 : decode cX12_isMessage 7 = .ok (.isub, 1) := by decide +kernel
theorem dX12_isMessage_8 : decode cX12_isMessage 8 = .ok (.invokestatic 154, 3) := by decide +kernel
theorem dX12_isMessage_11 : decode cX12_isMessage 11 = .ok (.ireturn, 1) := by decide +kernel
theorem dX12_lose_0 : decode cX12_lose 0 = .ok (.aload_n 0, 1) := by decide +kernel
theorem dX12_lose_1 : decode cX12_lose 1 = .ok (.aload_n 0, 1) := by decide +kernel
theorem dX12_lose_2 : decode cX12_lose 2 = .ok (.iload_n 1, 1) := by decide +kernel
theorem dX12_lose_3 : decode cX12_lose 3 = .ok (.invokevirtual 195, 3) := by decide +kernel
theorem dX12_lose_6 : decode cX12_lose 6 = .ok (.iconst 1, 1) := by decide +kernel
theorem dX12_lose_7 : decode cX12_lose 7 = .ok (.iconst 1, 1) := by decide +kernel
theorem dX12_lose_8 : decode cX12_lose 8 = .ok (.invokevirtual 173, 3) := by decide +kernel
theorem dX12_lose_11 : decode cX12_lose 11 = .ok (.ifCond .ne 5, 3) := by decide +kernel
theorem dX12_lose_14 : decode cX12_lose 14 = .ok (.iconst 0, 1) := by decide +kernel
theorem dX12_lose_15 : decode cX12_lose 15 = .ok (.ireturn, 1) := by decide +kernel
theorem dX12_lose_16 : decode cX12_lose 16 = .ok (.aload_n 0, 1) := by decide +kernel
theorem dX12_lose_17 : decode cX12_lose 17 = .ok (.dup, 1) := by decide +kernel
theorem dX12_lose_18 : decode cX12_lose 18 = .ok (.getfield 164, 3) := by decide +kernel
theorem dX12_lose_21 : decode cX12_lose 21 = .ok (.iconst 1, 1) := by decide +kernel
theorem dX12_lose_22 : decode cX12_lose 22 = .ok (.iadd, 1) := by decide +kernel
theorem dX12_lose_23 : decode cX12_lose 23 = .ok (.putfield 164, 3) := by decide +kernel
theorem dX12_lose_26 : decode cX12_lose 26 = .ok (.aload_n 0, 1) := by decide +kernel
theorem dX12_lose_27 : decode cX12_lose 27 = .ok (.iload_n 1, 1) := by decide +kernel
theorem dX12_lose_28 : decode cX12_lose 28 = .ok (.invokevirtual 198, 3) := by decide +kernel
theorem dX12_lose_31 : decode cX12_lose 31 = .ok (.aload_n 0, 1) := by decide +kernel
theorem dX12_lose_32 : decode cX12_lose 32 = .ok (.getfield 167, 3) := by decide +kernel
theorem dX12_lose_35 : decode cX12_lose 35 = .ok (.ireturn, 1) := by decide +kernel
theorem dX12_twice_0 : decode cX12_twice 0 = .ok (.aload_n 0, 1) := by decide +kernel
theorem dX12_twice_1 : decode cX12_twice 1 = .ok (.aload_n 0, 1) := by decide +kernel
theorem dX12_twice_2 : decode cX12_twice 2 = .ok (.iload_n 1, 1) := by decide +kernel
theorem dX12_twice_3 : decode cX12_twice 3 = .ok (.invokevirtual 195, 3) := by decide +kernel
theorem dX12_twice_6 : decode cX12_twice 6 = .ok (.iconst 1, 1) := by decide +kernel
theorem dX12_twice_7 : decode cX12_twice 7 = .ok (.iconst 1, 1) := by decide +kernel
theorem dX12_twice_8 : decode cX12_twice 8 = .ok (.invokevirtual 173, 3) := by decide +kernel
theorem dX12_twice_11 : decode cX12_twice 11 = .ok (.ifCond .ne 5, 3) := by decide +kernel
theorem dX12_twice_14 : decode cX12_twice 14 = .ok (.iconst 0, 1) := by decide +kernel
theorem dX12_twice_15 : decode cX12_twice 15 = .ok (.ireturn, 1) := by decide +kernel
theorem dX12_twice_16 : decode cX12_twice 16 = .ok (.aload_n 0, 1) := by decide +kernel
theorem dX12_twice_17 : decode cX12_twice 17 = .ok (.dup, 1) := by decide +kernel
theorem dX12_twice_18 : decode cX12_twice 18 = .ok (.getfield 164, 3) := by decide +kernel
theorem dX12_twice_21 : decode cX12_twice 21 = .ok (.iconst 1, 1) := by decide +kernel
theorem dX12_twice_22 : decode cX12_twice 22 = .ok (.iadd, 1) := by decide +kernel
theorem dX12_twice_23 : decode cX12_twice 23 = .ok (.putfield 164, 3) := by decide +kernel
theorem dX12_twice_26 : decode cX12_twice 26 = .ok (.aload_n 0, 1) := by decide +kernel
theorem dX12_twice_27 : decode cX12_twice 27 = .ok (.getfield 167, 3) := by decide +kernel
theorem dX12_twice_30 : decode cX12_twice 30 = .ok (.bipush 60, 2) := by decide +kernel
theorem dX12_twice_32 : decode cX12_twice 32 = .ok (.if_icmp .ge 67, 3) := by decide +kernel
theorem dX12_twice_35 : decode cX12_twice 35 = .ok (.iconst 0, 1) := by decide +kernel
theorem dX12_twice_36 : decode cX12_twice 36 = .ok (.istore_n 2, 1) := by decide +kernel
theorem dX12_twice_37 : decode cX12_twice 37 = .ok (.iload_n 2, 1) := by decide +kernel
theorem dX12_twice_38 : decode cX12_twice 38 = .ok (.bipush 24, 2) := by decide +kernel
theorem dX12_twice_40 : decode cX12_twice 40 = .ok (.if_icmp .ge 34, 3) := by decide +kernel
theorem dX12_twice_43 : decode cX12_twice 43 = .ok (.aload_n 0, 1) := by decide +kernel
theorem dX12_twice_44 : decode cX12_twice 44 = .ok (.getfield 117, 3) := by decide +kernel
theorem dX12_twice_47 : decode cX12_twice 47 = .ok (.bipush 24, 2) := by decide +kernel
theorem dX12_twice_49 : decode cX12_twice 49 = .ok (.aload_n 0, 1) := by decide +kernel
theorem dX12_twice_50 : decode cX12_twice 50 = .ok (.getfield 167, 3) := by decide +kernel
theorem dX12_twice_53 : decode cX12_twice 53 = .ok (.imul, 1) := by decide +kernel
theorem dX12_twice_54 : decode cX12_twice 54 = .ok (.iload_n 2, 1) := by decide +kernel
theorem dX12_twice_55 : decode cX12_twice 55 = .ok (.iadd, 1) := by decide +kernel
theorem dX12_twice_56 : decode cX12_twice 56 = .ok (.aload_n 0, 1) := by decide +kernel
theorem dX12_twice_57 : decode cX12_twice 57 = .ok (.getfield 117, 3) := by decide +kernel
theorem dX12_twice_60 : decode cX12_twice 60 = .ok (.bipush 24, 2) := by decide +kernel
theorem dX12_twice_62 : decode cX12_twice 62 = .ok (.iload_n 1, 1) := by decide +kernel
theorem dX12_twice_63 : decode cX12_twice 63 = .ok (.imul, 1) := by decide +kernel
theorem dX12_twice_64 : decode cX12_twice 64 = .ok (.iload_n 2, 1) := by decide +kernel
theorem dX12_twice_65 : decode cX12_twice 65 = .ok (.iadd, 1) := by decide +kernel
theorem dX12_twice_66 : decode cX12_twice 66 = .ok (.iaload, 1) := by decide +kernel
theorem dX12_twice_67 : decode cX12_twice 67 = .ok (.iastore, 1) := by decide +kernel
theorem dX12_twice_68 : decode cX12_twice 68 = .ok (.iinc 2 1, 3) := by decide +kernel
theorem dX12_twice_71 : decode cX12_twice 71 = .ok (.goto (-34), 3) := by decide +kernel
theorem dX12_twice_74 : decode cX12_twice 74 = .ok (.aload_n 0, 1) := by decide +kernel
theorem dX12_twice_75 : decode cX12_twice 75 = .ok (.getfield 120, 3) := by decide +kernel
theorem dX12_twice_78 : decode cX12_twice 78 = .ok (.aload_n 0, 1) := by decide +kernel
theorem dX12_twice_79 : decode cX12_twice 79 = .ok (.getfield 167, 3) := by decide +kernel
theorem dX12_twice_82 : decode cX12_twice 82 = .ok (.aload_n 0, 1) := by decide +kernel
theorem dX12_twice_83 : decode cX12_twice 83 = .ok (.getfield 120, 3) := by decide +kernel
theorem dX12_twice_86 : decode cX12_twice 86 = .ok (.iload_n 1, 1) := by decide +kernel
theorem dX12_twice_87 : decode cX12_twice 87 = .ok (.faload, 1) := by decide +kernel
theorem dX12_twice_88 : decode cX12_twice 88 = .ok (.fastore, 1) := by decide +kernel
theorem dX12_twice_89 : decode cX12_twice 89 = .ok (.aload_n 0, 1) := by decide +kernel
theorem dX12_twice_90 : decode cX12_twice 90 = .ok (.dup, 1) := by decide +kernel
theorem dX12_twice_91 : decode cX12_twice 91 = .ok (.getfield 167, 3) := by decide +kernel
theorem dX12_twice_94 : decode cX12_twice 94 = .ok (.iconst 1, 1) := by decide +kernel
theorem dX12_twice_95 : decode cX12_twice 95 = .ok (.iadd, 1) := by decide +kernel
theorem dX12_twice_96 : decode cX12_twice 96 = .ok (.putfield 167, 3) := by decide +kernel
theorem dX12_twice_99 : decode cX12_twice 99 = .ok (.aload_n 0, 1) := by decide +kernel
theorem dX12_twice_100 : decode cX12_twice 100 = .ok (.getfield 167, 3) := by decide +kernel
theorem dX12_twice_103 : decode cX12_twice 103 = .ok (.ireturn, 1) := by decide +kernel
theorem dX12_deliver_0 : decode cX12_deliver 0 = .ok (.aload_n 0, 1) := by decide +kernel
theorem dX12_deliver_1 : decode cX12_deliver 1 = .ok (.iload_n 1, 1) := by decide +kernel
theorem dX12_deliver_2 : decode cX12_deliver 2 = .ok (.invokevirtual 195, 3) := by decide +kernel
theorem dX12_deliver_5 : decode cX12_deliver 5 = .ok (.istore_n 2, 1) := by decide +kernel
theorem dX12_deliver_6 : decode cX12_deliver 6 = .ok (.iload_n 2, 1) := by decide +kernel
theorem dX12_deliver_7 : decode cX12_deliver 7 = .ok (.ifCond .eq 59, 3) := by decide +kernel
theorem dX12_deliver_10 : decode cX12_deliver 10 = .ok (.aload_n 0, 1) := by decide +kernel
theorem dX12_deliver_11 : decode cX12_deliver 11 = .ok (.getfield 18, 3) := by decide +kernel
theorem dX12_deliver_14 : decode cX12_deliver 14 = .ok (.aload_n 0, 1) := by decide +kernel
theorem dX12_deliver_15 : decode cX12_deliver 15 = .ok (.getfield 117, 3) := by decide +kernel
theorem dX12_deliver_18 : decode cX12_deliver 18 = .ok (.bipush 24, 2) := by decide +kernel
theorem dX12_deliver_20 : decode cX12_deliver 20 = .ok (.iload_n 1, 1) := by decide +kernel
theorem dX12_deliver_21 : decode cX12_deliver 21 = .ok (.imul, 1) := by decide +kernel
theorem dX12_deliver_22 : decode cX12_deliver 22 = .ok (.iconst 2, 1) := by decide +kernel
theorem dX12_deliver_23 : decode cX12_deliver 23 = .ok (.iadd, 1) := by decide +kernel
theorem dX12_deliver_24 : decode cX12_deliver 24 = .ok (.iaload, 1) := by decide +kernel
theorem dX12_deliver_25 : decode cX12_deliver 25 = .ok (.baload, 1) := by decide +kernel
theorem dX12_deliver_26 : decode cX12_deliver 26 = .ok (.ifCond .eq 40, 3) := by decide +kernel
theorem dX12_deliver_29 : decode cX12_deliver 29 = .ok (.aload_n 0, 1) := by decide +kernel
theorem dX12_deliver_30 : decode cX12_deliver 30 = .ok (.getfield 22, 3) := by decide +kernel
theorem dX12_deliver_33 : decode cX12_deliver 33 = .ok (.iconst 5, 1) := by decide +kernel
theorem dX12_deliver_34 : decode cX12_deliver 34 = .ok (.aload_n 0, 1) := by decide +kernel
theorem dX12_deliver_35 : decode cX12_deliver 35 = .ok (.getfield 117, 3) := by decide +kernel
theorem dX12_deliver_38 : decode cX12_deliver 38 = .ok (.bipush 24, 2) := by decide +kernel
theorem dX12_deliver_40 : decode cX12_deliver 40 = .ok (.iload_n 1, 1) := by decide +kernel
theorem dX12_deliver_41 : decode cX12_deliver 41 = .ok (.imul, 1) := by decide +kernel
theorem dX12_deliver_42 : decode cX12_deliver 42 = .ok (.iconst 1, 1) := by decide +kernel
theorem dX12_deliver_43 : decode cX12_deliver 43 = .ok (.iadd, 1) := by decide +kernel
theorem dX12_deliver_44 : decode cX12_deliver 44 = .ok (.iaload, 1) := by decide +kernel
theorem dX12_deliver_45 : decode cX12_deliver 45 = .ok (.imul, 1) := by decide +kernel
theorem dX12_deliver_46 : decode cX12_deliver 46 = .ok (.aload_n 0, 1) := by decide +kernel
theorem dX12_deliver_47 : decode cX12_deliver 47 = .ok (.getfield 117, 3) := by decide +kernel
theorem dX12_deliver_50 : decode cX12_deliver 50 = .ok (.bipush 24, 2) := by decide +kernel
theorem dX12_deliver_52 : decode cX12_deliver 52 = .ok (.iload_n 1, 1) := by decide +kernel
theorem dX12_deliver_53 : decode cX12_deliver 53 = .ok (.imul, 1) := by decide +kernel
theorem dX12_deliver_54 : decode cX12_deliver 54 = .ok (.iconst 2, 1) := by decide +kernel
theorem dX12_deliver_55 : decode cX12_deliver 55 = .ok (.iadd, 1) := by decide +kernel
theorem dX12_deliver_56 : decode cX12_deliver 56 = .ok (.iaload, 1) := by decide +kernel
theorem dX12_deliver_57 : decode cX12_deliver 57 = .ok (.iadd, 1) := by decide +kernel
theorem dX12_deliver_58 : decode cX12_deliver 58 = .ok (.baload, 1) := by decide +kernel
theorem dX12_deliver_59 : decode cX12_deliver 59 = .ok (.ifCond .ne 7, 3) := by decide +kernel
theorem dX12_deliver_62 : decode cX12_deliver 62 = .ok (.iconst 1, 1) := by decide +kernel
theorem dX12_deliver_63 : decode cX12_deliver 63 = .ok (.goto 4, 3) := by decide +kernel
theorem dX12_deliver_66 : decode cX12_deliver 66 = .ok (.iconst 0, 1) := by decide +kernel
theorem dX12_deliver_67 : decode cX12_deliver 67 = .ok (.istore_n 3, 1) := by decide +kernel
theorem dX12_deliver_68 : decode cX12_deliver 68 = .ok (.aload_n 0, 1) := by decide +kernel
theorem dX12_deliver_69 : decode cX12_deliver 69 = .ok (.iload_n 2, 1) := by decide +kernel
theorem dX12_deliver_70 : decode cX12_deliver 70 = .ok (.iload_n 3, 1) := by decide +kernel
theorem dX12_deliver_71 : decode cX12_deliver 71 = .ok (.iconst 1, 1) := by decide +kernel
theorem dX12_deliver_72 : decode cX12_deliver 72 = .ok (.invokevirtual 173, 3) := by decide +kernel
theorem dX12_deliver_75 : decode cX12_deliver 75 = .ok (.ifCond .ne 5, 3) := by decide +kernel
theorem dX12_deliver_78 : decode cX12_deliver 78 = .ok (.iconst 0, 1) := by decide +kernel
theorem dX12_deliver_79 : decode cX12_deliver 79 = .ok (.ireturn, 1) := by decide +kernel
theorem dX12_deliver_80 : decode cX12_deliver 80 = .ok (.aload_n 0, 1) := by decide +kernel
theorem dX12_deliver_81 : decode cX12_deliver 81 = .ok (.dup, 1) := by decide +kernel
theorem dX12_deliver_82 : decode cX12_deliver 82 = .ok (.getfield 164, 3) := by decide +kernel
theorem dX12_deliver_85 : decode cX12_deliver 85 = .ok (.iconst 1, 1) := by decide +kernel
theorem dX12_deliver_86 : decode cX12_deliver 86 = .ok (.iadd, 1) := by decide +kernel
theorem dX12_deliver_87 : decode cX12_deliver 87 = .ok (.putfield 164, 3) := by decide +kernel
theorem dX12_deliver_90 : decode cX12_deliver 90 = .ok (.aload_n 0, 1) := by decide +kernel
theorem dX12_deliver_91 : decode cX12_deliver 91 = .ok (.iconst 0, 1) := by decide +kernel
theorem dX12_deliver_92 : decode cX12_deliver 92 = .ok (.putfield 192, 3) := by decide +kernel
theorem dX12_deliver_95 : decode cX12_deliver 95 = .ok (.iconst 0, 1) := by decide +kernel
theorem dX12_deliver_96 : decode cX12_deliver 96 = .ok (.istore 4, 2) := by decide +kernel
theorem dX12_deliver_98 : decode cX12_deliver 98 = .ok (.iload 4, 2) := by decide +kernel
theorem dX12_deliver_100 : decode cX12_deliver 100 = .ok (.bipush 24, 2) := by decide +kernel
theorem dX12_deliver_102 : decode cX12_deliver 102 = .ok (.if_icmp .ge 28, 3) := by decide +kernel
theorem dX12_deliver_105 : decode cX12_deliver 105 = .ok (.aload_n 0, 1) := by decide +kernel
theorem dX12_deliver_106 : decode cX12_deliver 106 = .ok (.getfield 144, 3) := by decide +kernel
theorem dX12_deliver_109 : decode cX12_deliver 109 = .ok (.iload 4, 2) := by decide +kernel
theorem dX12_deliver_111 : decode cX12_deliver 111 = .ok (.aload_n 0, 1) := by decide +kernel
theorem dX12_deliver_112 : decode cX12_deliver 112 = .ok (.getfield 117, 3) := by decide +kernel
theorem dX12_deliver_115 : decode cX12_deliver 115 = .ok (.bipush 24, 2) := by decide +kernel
theorem dX12_deliver_117 : decode cX12_deliver 117 = .ok (.iload_n 1, 1) := by decide +kernel
theorem dX12_deliver_118 : decode cX12_deliver 118 = .ok (.imul, 1) := by decide +kernel
theorem dX12_deliver_119 : decode cX12_deliver 119 = .ok (.iload 4, 2) := by decide +kernel
theorem dX12_deliver_121 : decode cX12_deliver 121 = .ok (.iadd, 1) := by decide +kernel
theorem dX12_deliver_122 : decode cX12_deliver 122 = .ok (.iaload, 1) := by decide +kernel
theorem dX12_deliver_123 : decode cX12_deliver 123 = .ok (.iastore, 1) := by decide +kernel
theorem dX12_deliver_124 : decode cX12_deliver 124 = .ok (.iinc 4 1, 3) := by decide +kernel
theorem dX12_deliver_127 : decode cX12_deliver 127 = .ok (.goto (-29), 3) := by decide +kernel
theorem dX12_deliver_130 : decode cX12_deliver 130 = .ok (.aload_n 0, 1) := by decide +kernel
theorem dX12_deliver_131 : decode cX12_deliver 131 = .ok (.getfield 120, 3) := by decide +kernel
theorem dX12_deliver_134 : decode cX12_deliver 134 = .ok (.iload_n 1, 1) := by decide +kernel
theorem dX12_deliver_135 : decode cX12_deliver 135 = .ok (.faload, 1) := by decide +kernel
theorem dX12_deliver_136 : decode cX12_deliver 136 = .ok (.fstore 4, 2) := by decide +kernel
theorem dX12_deliver_138 : decode cX12_deliver 138 = .ok (.aload_n 0, 1) := by decide +kernel
theorem dX12_deliver_139 : decode cX12_deliver 139 = .ok (.iload_n 1, 1) := by decide +kernel
theorem dX12_deliver_140 : decode cX12_deliver 140 = .ok (.invokevirtual 198, 3) := by decide +kernel
theorem dX12_deliver_143 : decode cX12_deliver 143 = .ok (.aload_n 0, 1) := by decide +kernel
theorem dX12_deliver_144 : decode cX12_deliver 144 = .ok (.getfield 144, 3) := by decide +kernel
theorem dX12_deliver_147 : decode cX12_deliver 147 = .ok (.iconst 0, 1) := by decide +kernel
theorem dX12_deliver_148 : decode cX12_deliver 148 = .ok (.iaload, 1) := by decide +kernel
theorem dX12_deliver_149 : decode cX12_deliver 149 = .ok (.istore 5, 2) := by decide +kernel
theorem dX12_deliver_151 : decode cX12_deliver 151 = .ok (.aload_n 0, 1) := by decide +kernel
theorem dX12_deliver_152 : decode cX12_deliver 152 = .ok (.getfield 144, 3) := by decide +kernel
theorem dX12_deliver_155 : decode cX12_deliver 155 = .ok (.iconst 2, 1) := by decide +kernel
theorem dX12_deliver_156 : decode cX12_deliver 156 = .ok (.iaload, 1) := by decide +kernel
theorem dX12_deliver_157 : decode cX12_deliver 157 = .ok (.istore 6, 2) := by decide +kernel
theorem dX12_deliver_159 : decode cX12_deliver 159 = .ok (.iload 5, 2) := by decide +kernel
theorem dX12_deliver_161 : decode cX12_deliver 161 = .ok (.iconst 3, 1) := by decide +kernel
theorem dX12_deliver_162 : decode cX12_deliver 162 = .ok (.if_icmp .gt 46, 3) := by decide +kernel
theorem dX12_deliver_165 : decode cX12_deliver 165 = .ok (.aload_n 0, 1) := by decide +kernel
theorem dX12_deliver_166 : decode cX12_deliver 166 = .ok (.getfield 144, 3) := by decide +kernel
theorem dX12_deliver_169 : decode cX12_deliver 169 = .ok (.iconst 3, 1) := by decide +kernel
theorem dX12_deliver_170 : decode cX12_deliver 170 = .ok (.iaload, 1) := by decide +kernel
theorem dX12_deliver_171 : decode cX12_deliver 171 = .ok (.aload_n 0, 1) := by decide +kernel
theorem dX12_deliver_172 : decode cX12_deliver 172 = .ok (.getfield 32, 3) := by decide +kernel
theorem dX12_deliver_175 : decode cX12_deliver 175 = .ok (.iload 6, 2) := by decide +kernel
theorem dX12_deliver_177 : decode cX12_deliver 177 = .ok (.iaload, 1) := by decide +kernel
theorem dX12_deliver_178 : decode cX12_deliver 178 = .ok (.if_icmp .le 30, 3) := by decide +kernel
theorem dX12_deliver_181 : decode cX12_deliver 181 = .ok (.aload_n 0, 1) := by decide +kernel
theorem dX12_deliver_182 : decode cX12_deliver 182 = .ok (.getfield 32, 3) := by decide +kernel
theorem dX12_deliver_185 : decode cX12_deliver 185 = .ok (.iload 6, 2) := by decide +kernel
theorem dX12_deliver_187 : decode cX12_deliver 187 = .ok (.aload_n 0, 1) := by decide +kernel
theorem dX12_deliver_188 : decode cX12_deliver 188 = .ok (.getfield 144, 3) := by decide +kernel
theorem dX12_deliver_191 : decode cX12_deliver 191 = .ok (.iconst 3, 1) := by decide +kernel
theorem dX12_deliver_192 : decode cX12_deliver 192 = .ok (.iaload, 1) := by decide +kernel
theorem dX12_deliver_193 : decode cX12_deliver 193 = .ok (.iastore, 1) := by decide +kernel
theorem dX12_deliver_194 : decode cX12_deliver 194 = .ok (.aload_n 0, 1) := by decide +kernel
theorem dX12_deliver_195 : decode cX12_deliver 195 = .ok (.getfield 36, 3) := by decide +kernel
theorem dX12_deliver_198 : decode cX12_deliver 198 = .ok (.iload 6, 2) := by decide +kernel
theorem dX12_deliver_200 : decode cX12_deliver 200 = .ok (.iconst (-1), 1) := by decide +kernel
theorem dX12_deliver_201 : decode cX12_deliver 201 = .ok (.iastore, 1) := by decide +kernel
theorem dX12_deliver_202 : decode cX12_deliver 202 = .ok (.aload_n 0, 1) := by decide +kernel
theorem dX12_deliver_203 : decode cX12_deliver 203 = .ok (.iload 6, 2) := by decide +kernel
theorem dX12_deliver_205 : decode cX12_deliver 205 = .ok (.invokevirtual 184, 3) := by decide +kernel
theorem dX12_deliver_208 : decode cX12_deliver 208 = .ok (.iload 5, 2) := by decide +kernel
theorem dX12_deliver_210 : decode cX12_deliver 210 = .ok (.tableswitch 109 0 6 #[42, 51, 60, 71, 82, 91, 100], 42) := by decide +kernel
theorem dX12_deliver_252 : decode cX12_deliver 252 = .ok (.aload_n 0, 1) := by decide +kernel
theorem dX12_deliver_253 : decode cX12_deliver 253 = .ok (.iload 6, 2) := by decide +kernel
theorem dX12_deliver_255 : decode cX12_deliver 255 = .ok (.invokevirtual 201, 3) := by decide +kernel
theorem dX12_deliver_258 : decode cX12_deliver 258 = .ok (.goto 67, 3) := by decide +kernel
theorem dX12_deliver_261 : decode cX12_deliver 261 = .ok (.aload_n 0, 1) := by decide +kernel
theorem dX12_deliver_262 : decode cX12_deliver 262 = .ok (.iload 6, 2) := by decide +kernel
theorem dX12_deliver_264 : decode cX12_deliver 264 = .ok (.invokevirtual 204, 3) := by decide +kernel
theorem dX12_deliver_267 : decode cX12_deliver 267 = .ok (.goto 58, 3) := by decide +kernel
theorem dX12_deliver_270 : decode cX12_deliver 270 = .ok (.aload_n 0, 1) := by decide +kernel
theorem dX12_deliver_271 : decode cX12_deliver 271 = .ok (.iload 6, 2) := by decide +kernel
theorem dX12_deliver_273 : decode cX12_deliver 273 = .ok (.fload 4, 2) := by decide +kernel
theorem dX12_deliver_275 : decode cX12_deliver 275 = .ok (.invokevirtual 207, 3) := by decide +kernel
theorem dX12_deliver_278 : decode cX12_deliver 278 = .ok (.goto 47, 3) := by decide +kernel
theorem dX12_deliver_281 : decode cX12_deliver 281 = .ok (.aload_n 0, 1) := by decide +kernel
theorem dX12_deliver_282 : decode cX12_deliver 282 = .ok (.iload 6, 2) := by decide +kernel
theorem dX12_deliver_284 : decode cX12_deliver 284 = .ok (.fload 4, 2) := by decide +kernel
theorem dX12_deliver_286 : decode cX12_deliver 286 = .ok (.invokevirtual 211, 3) := by decide +kernel
theorem dX12_deliver_289 : decode cX12_deliver 289 = .ok (.goto 36, 3) := by decide +kernel
theorem dX12_deliver_292 : decode cX12_deliver 292 = .ok (.aload_n 0, 1) := by decide +kernel
theorem dX12_deliver_293 : decode cX12_deliver 293 = .ok (.iload 6, 2) := by decide +kernel
theorem dX12_deliver_295 : decode cX12_deliver 295 = .ok (.invokevirtual 214, 3) := by decide +kernel
theorem dX12_deliver_298 : decode cX12_deliver 298 = .ok (.goto 27, 3) := by decide +kernel
theorem dX12_deliver_301 : decode cX12_deliver 301 = .ok (.aload_n 0, 1) := by decide +kernel
theorem dX12_deliver_302 : decode cX12_deliver 302 = .ok (.iload 6, 2) := by decide +kernel
theorem dX12_deliver_304 : decode cX12_deliver 304 = .ok (.invokevirtual 217, 3) := by decide +kernel
theorem dX12_deliver_307 : decode cX12_deliver 307 = .ok (.goto 18, 3) := by decide +kernel
theorem dX12_deliver_310 : decode cX12_deliver 310 = .ok (.aload_n 0, 1) := by decide +kernel
theorem dX12_deliver_311 : decode cX12_deliver 311 = .ok (.iload 6, 2) := by decide +kernel
theorem dX12_deliver_313 : decode cX12_deliver 313 = .ok (.invokevirtual 220, 3) := by decide +kernel
theorem dX12_deliver_316 : decode cX12_deliver 316 = .ok (.goto 9, 3) := by decide +kernel
theorem dX12_deliver_319 : decode cX12_deliver 319 = .ok (.aload_n 0, 1) := by decide +kernel
theorem dX12_deliver_320 : decode cX12_deliver 320 = .ok (.iload 6, 2) := by decide +kernel
theorem dX12_deliver_322 : decode cX12_deliver 322 = .ok (.invokevirtual 223, 3) := by decide +kernel
theorem dX12_deliver_325 : decode cX12_deliver 325 = .ok (.aload_n 0, 1) := by decide +kernel
theorem dX12_deliver_326 : decode cX12_deliver 326 = .ok (.invokevirtual 187, 3) := by decide +kernel
theorem dX12_deliver_329 : decode cX12_deliver 329 = .ok (.aload_n 0, 1) := by decide +kernel
theorem dX12_deliver_330 : decode cX12_deliver 330 = .ok (.getfield 192, 3) := by decide +kernel
theorem dX12_deliver_333 : decode cX12_deliver 333 = .ok (.ireturn, 1) := by decide +kernel
theorem dX12_termAt_0 : decode cX12_termAt 0 = .ok (.iload_n 2, 1) := by decide +kernel
theorem dX12_termAt_1 : decode cX12_termAt 1 = .ok (.ifCond .ne 7, 3) := by decide +kernel
theorem dX12_termAt_4 : decode cX12_termAt 4 = .ok (.iconst 0, 1) := by decide +kernel
theorem dX12_termAt_5 : decode cX12_termAt 5 = .ok (.goto 16, 3) := by decide +kernel
theorem dX12_termAt_8 : decode cX12_termAt 8 = .ok (.aload_n 0, 1) := by decide +kernel
theorem dX12_termAt_9 : decode cX12_termAt 9 = .ok (.getfield 48, 3) := by decide +kernel
theorem dX12_termAt_12 : decode cX12_termAt 12 = .ok (.bipush 30, 2) := by decide +kernel
theorem dX12_termAt_14 : decode cX12_termAt 14 = .ok (.iload_n 1, 1) := by decide +kernel
theorem dX12_termAt_15 : decode cX12_termAt 15 = .ok (.imul, 1) := by decide +kernel
theorem dX12_termAt_16 : decode cX12_termAt 16 = .ok (.iload_n 2, 1) := by decide +kernel
theorem dX12_termAt_17 : decode cX12_termAt 17 = .ok (.iadd, 1) := by decide +kernel
theorem dX12_termAt_18 : decode cX12_termAt 18 = .ok (.iconst 1, 1) := by decide +kernel
theorem dX12_termAt_19 : decode cX12_termAt 19 = .ok (.isub, 1) := by decide +kernel
theorem dX12_termAt_20 : decode cX12_termAt 20 = .ok (.iaload, 1) := by decide +kernel
theorem dX12_termAt_21 : decode cX12_termAt 21 = .ok (.ireturn, 1) := by decide +kernel
theorem dX12_promises_0 : decode cX12_promises 0 = .ok (.aload_n 0, 1) := by decide +kernel
theorem dX12_promises_1 : decode cX12_promises 1 = .ok (.getfield 81, 3) := by decide +kernel
theorem dX12_promises_4 : decode cX12_promises 4 = .ok (.iload_n 1, 1) := by decide +kernel
theorem dX12_promises_5 : decode cX12_promises 5 = .ok (.iaload, 1) := by decide +kernel
theorem dX12_promises_6 : decode cX12_promises 6 = .ok (.iconst (-1), 1) := by decide +kernel
theorem dX12_promises_7 : decode cX12_promises 7 = .ok (.if_icmp .eq 23, 3) := by decide +kernel
theorem dX12_promises_10 : decode cX12_promises 10 = .ok (.aload_n 0, 1) := by decide +kernel
theorem dX12_promises_11 : decode cX12_promises 11 = .ok (.getfield 25, 3) := by decide +kernel
theorem dX12_promises_14 : decode cX12_promises 14 = .ok (.iload_n 1, 1) := by decide +kernel
theorem dX12_promises_15 : decode cX12_promises 15 = .ok (.faload, 1) := by decide +kernel
theorem dX12_promises_16 : decode cX12_promises 16 = .ok (.aload_n 0, 1) := by decide +kernel
theorem dX12_promises_17 : decode cX12_promises 17 = .ok (.getfield 84, 3) := by decide +kernel
theorem dX12_promises_20 : decode cX12_promises 20 = .ok (.iload_n 1, 1) := by decide +kernel
theorem dX12_promises_21 : decode cX12_promises 21 = .ok (.faload, 1) := by decide +kernel
theorem dX12_promises_22 : decode cX12_promises 22 = .ok (.fcmp .g, 1) := by decide +kernel
theorem dX12_promises_23 : decode cX12_promises 23 = .ok (.ifCond .ge 7, 3) := by decide +kernel
theorem dX12_promises_26 : decode cX12_promises 26 = .ok (.iconst 1, 1) := by decide +kernel
theorem dX12_promises_27 : decode cX12_promises 27 = .ok (.goto 4, 3) := by decide +kernel
theorem dX12_promises_30 : decode cX12_promises 30 = .ok (.iconst 0, 1) := by decide +kernel
theorem dX12_promises_31 : decode cX12_promises 31 = .ok (.ireturn, 1) := by decide +kernel
theorem dX12_stand_0 : decode cX12_stand 0 = .ok (.aload_n 0, 1) := by decide +kernel
theorem dX12_stand_1 : decode cX12_stand 1 = .ok (.iload_n 1, 1) := by decide +kernel
theorem dX12_stand_2 : decode cX12_stand 2 = .ok (.invokevirtual 181, 3) := by decide +kernel
theorem dX12_stand_5 : decode cX12_stand 5 = .ok (.istore_n 2, 1) := by decide +kernel
theorem dX12_stand_6 : decode cX12_stand 6 = .ok (.aload_n 0, 1) := by decide +kernel
theorem dX12_stand_7 : decode cX12_stand 7 = .ok (.iload_n 2, 1) := by decide +kernel
theorem dX12_stand_8 : decode cX12_stand 8 = .ok (.iload_n 2, 1) := by decide +kernel
theorem dX12_stand_9 : decode cX12_stand 9 = .ok (.ifCond .eq 34, 3) := by decide +kernel
theorem dX12_stand_12 : decode cX12_stand 12 = .ok (.aload_n 0, 1) := by decide +kernel
