theorem dX5_lastWritten_13 : decode cX5_lastWritten 13 = .ok (.ireturn, 1) := by decide +kernel
theorem dX5_saidIn_0 : decode cX5_saidIn 0 = .ok (.iconst 0, 1) := by decide +kernel
theorem dX5_saidIn_1 : decode cX5_saidIn 1 = .ok (.istore_n 2, 1) := by decide +kernel
theorem dX5_saidIn_2 : decode cX5_saidIn 2 = .ok (.iload_n 2, 1) := by decide +kernel
theorem dX5_saidIn_3 : decode cX5_saidIn 3 = .ok (.aload_n 0, 1) := by decide +kernel
theorem dX5_saidIn_4 : decode cX5_saidIn 4 = .ok (.getfield 26, 3) := by decide +kernel
theorem dX5_saidIn_7 : decode cX5_saidIn 7 = .ok (.if_icmp .ge 24, 3) := by decide +kernel
theorem dX5_saidIn_10 : decode cX5_saidIn 10 = .ok (.aload_n 0, 1) := by decide +kernel
theorem dX5_saidIn_11 : decode cX5_saidIn 11 = .ok (.getfield 22, 3) := by decide +kernel
theorem dX5_saidIn_14 : decode cX5_saidIn 14 = .ok (.iload_n 2, 1) := by decide +kernel
theorem dX5_saidIn_15 : decode cX5_saidIn 15 = .ok (.aaload, 1) := by decide +kernel
theorem dX5_saidIn_16 : decode cX5_saidIn 16 = .ok (.iload_n 1, 1) := by decide +kernel
theorem dX5_saidIn_17 : decode cX5_saidIn 17 = .ok (.invokestatic 104, 3) := by decide +kernel
theorem dX5_saidIn_20 : decode cX5_saidIn 20 = .ok (.ifCond .eq 5, 3) := by decide +kernel
theorem dX5_saidIn_23 : decode cX5_saidIn 23 = .ok (.iload_n 2, 1) := by decide +kernel
theorem dX5_saidIn_24 : decode cX5_saidIn 24 = .ok (.ireturn, 1) := by decide +kernel
theorem dX5_saidIn_25 : decode cX5_saidIn 25 = .ok (.iinc 2 1, 3) := by decide +kernel
theorem dX5_saidIn_28 : decode cX5_saidIn 28 = .ok (.goto (-26), 3) := by decide +kernel
theorem dX5_saidIn_31 : decode cX5_saidIn 31 = .ok (.iconst (-1), 1) := by decide +kernel
theorem dX5_saidIn_32 : decode cX5_saidIn 32 = .ok (.ireturn, 1) := by decide +kernel
theorem dX5_isSaidIn_0 : decode cX5_isSaidIn 0 = .ok (.aload_n 0, 1) := by decide +kernel
theorem dX5_isSaidIn_1 : decode cX5_isSaidIn 1 = .ok (.getfield 108, 3) := by decide +kernel
theorem dX5_isSaidIn_4 : decode cX5_isSaidIn 4 = .ok (.iconst (-1), 1) := by decide +kernel
theorem dX5_isSaidIn_5 : decode cX5_isSaidIn 5 = .ok (.if_icmp .eq 23, 3) := by decide +kernel
theorem dX5_isSaidIn_8 : decode cX5_isSaidIn 8 = .ok (.aload_n 0, 1) := by decide +kernel
theorem dX5_isSaidIn_9 : decode cX5_isSaidIn 9 = .ok (.getfield 108, 3) := by decide +kernel
theorem dX5_isSaidIn_12 : decode cX5_isSaidIn 12 = .ok (.iload_n 1, 1) := by decide +kernel
theorem dX5_isSaidIn_13 : decode cX5_isSaidIn 13 = .ok (.if_icmp .gt 15, 3) := by decide +kernel
theorem dX5_isSaidIn_16 : decode cX5_isSaidIn 16 = .ok (.iload_n 1, 1) := by decide +kernel
theorem dX5_isSaidIn_17 : decode cX5_isSaidIn 17 = .ok (.aload_n 0, 1) := by decide +kernel
theorem dX5_isSaidIn_18 : decode cX5_isSaidIn 18 = .ok (.getfield 111, 3) := by decide +kernel
theorem dX5_isSaidIn_21 : decode cX5_isSaidIn 21 = .ok (.if_icmp .ge 7, 3) := by decide +kernel
theorem dX5_isSaidIn_24 : decode cX5_isSaidIn 24 = .ok (.iconst 1, 1) := by decide +kernel
theorem dX5_isSaidIn_25 : decode cX5_isSaidIn 25 = .ok (.goto 4, 3) := by decide +kernel
theorem dX5_isSaidIn_28 : decode cX5_isSaidIn 28 = .ok (.iconst 0, 1) := by decide +kernel
theorem dX5_isSaidIn_29 : decode cX5_isSaidIn 29 = .ok (.ireturn, 1) := by decide +kernel
theorem dX5_madeIn_0 : decode cX5_madeIn 0 = .ok (.aload_n 0, 1) := by decide +kernel
theorem dX5_madeIn_1 : decode cX5_madeIn 1 = .ok (.getfield 9, 3) := by decide +kernel
theorem dX5_madeIn_4 : decode cX5_madeIn 4 = .ok (.iconst 0, 1) := by decide +kernel
theorem dX5_madeIn_5 : decode cX5_madeIn 5 = .ok (.iaload, 1) := by decide +kernel
theorem dX5_madeIn_6 : decode cX5_madeIn 6 = .ok (.iload_n 1, 1) := by decide +kernel
theorem dX5_madeIn_7 : decode cX5_madeIn 7 = .ok (.iadd, 1) := by decide +kernel
theorem dX5_madeIn_8 : decode cX5_madeIn 8 = .ok (.istore_n 2, 1) := by decide +kernel
theorem dX5_madeIn_9 : decode cX5_madeIn 9 = .ok (.iconst 0, 1) := by decide +kernel
theorem dX5_madeIn_10 : decode cX5_madeIn 10 = .ok (.istore_n 3, 1) := by decide +kernel
theorem dX5_madeIn_11 : decode cX5_madeIn 11 = .ok (.iload_n 3, 1) := by decide +kernel
theorem dX5_madeIn_12 : decode cX5_madeIn 12 = .ok (.aload_n 0, 1) := by decide +kernel
theorem dX5_madeIn_13 : decode cX5_madeIn 13 = .ok (.getfield 26, 3) := by decide +kernel
theorem dX5_madeIn_16 : decode cX5_madeIn 16 = .ok (.if_icmp .ge 66, 3) := by decide +kernel
theorem dX5_madeIn_19 : decode cX5_madeIn 19 = .ok (.aload_n 0, 1) := by decide +kernel
theorem dX5_madeIn_20 : decode cX5_madeIn 20 = .ok (.getfield 22, 3) := by decide +kernel
theorem dX5_madeIn_23 : decode cX5_madeIn 23 = .ok (.iload_n 3, 1) := by decide +kernel
theorem dX5_madeIn_24 : decode cX5_madeIn 24 = .ok (.aaload, 1) := by decide +kernel
theorem dX5_madeIn_25 : decode cX5_madeIn 25 = .ok (.astore 4, 2) := by decide +kernel
theorem dX5_madeIn_27 : decode cX5_madeIn 27 = .ok (.aload 4, 2) := by decide +kernel
theorem dX5_madeIn_29 : decode cX5_madeIn 29 = .ok (.getfield 45, 3) := by decide +kernel
theorem dX5_madeIn_32 : decode cX5_madeIn 32 = .ok (.iconst 2, 1) := by decide +kernel
theorem dX5_madeIn_33 : decode cX5_madeIn 33 = .ok (.if_icmp .eq 43, 3) := by decide +kernel
theorem dX5_madeIn_36 : decode cX5_madeIn 36 = .ok (.aload 4, 2) := by decide +kernel
theorem dX5_madeIn_38 : decode cX5_madeIn 38 = .ok (.getfield 108, 3) := by decide +kernel
theorem dX5_madeIn_41 : decode cX5_madeIn 41 = .ok (.iconst (-1), 1) := by decide +kernel
theorem dX5_madeIn_42 : decode cX5_madeIn 42 = .ok (.if_icmp .ne 6, 3) := by decide +kernel
theorem dX5_madeIn_45 : decode cX5_madeIn 45 = .ok (.goto 31, 3) := by decide +kernel
theorem dX5_madeIn_48 : decode cX5_madeIn 48 = .ok (.aload 4, 2) := by decide +kernel
theorem dX5_madeIn_50 : decode cX5_madeIn 50 = .ok (.iload_n 1, 1) := by decide +kernel
theorem dX5_madeIn_51 : decode cX5_madeIn 51 = .ok (.invokestatic 104, 3) := by decide +kernel
theorem dX5_madeIn_54 : decode cX5_madeIn 54 = .ok (.ifCond .eq 5, 3) := by decide +kernel
theorem dX5_madeIn_57 : decode cX5_madeIn 57 = .ok (.iconst (-1), 1) := by decide +kernel
theorem dX5_madeIn_58 : decode cX5_madeIn 58 = .ok (.ireturn, 1) := by decide +kernel
theorem dX5_madeIn_59 : decode cX5_madeIn 59 = .ok (.aload 4, 2) := by decide +kernel
theorem dX5_madeIn_61 : decode cX5_madeIn 61 = .ok (.getfield 111, 3) := by decide +kernel
theorem dX5_madeIn_64 : decode cX5_madeIn 64 = .ok (.iload_n 1, 1) := by decide +kernel
theorem dX5_madeIn_65 : decode cX5_madeIn 65 = .ok (.if_icmp .gt 11, 3) := by decide +kernel
theorem dX5_madeIn_68 : decode cX5_madeIn 68 = .ok (.iload_n 2, 1) := by decide +kernel
theorem dX5_madeIn_69 : decode cX5_madeIn 69 = .ok (.aload 4, 2) := by decide +kernel
theorem dX5_madeIn_71 : decode cX5_madeIn 71 = .ok (.getfield 52, 3) := by decide +kernel
theorem dX5_madeIn_74 : decode cX5_madeIn 74 = .ok (.isub, 1) := by decide +kernel
theorem dX5_madeIn_75 : decode cX5_madeIn 75 = .ok (.istore_n 2, 1) := by decide +kernel
theorem dX5_madeIn_76 : decode cX5_madeIn 76 = .ok (.iinc 3 1, 3) := by decide +kernel
theorem dX5_madeIn_79 : decode cX5_madeIn 79 = .ok (.goto (-68), 3) := by decide +kernel
theorem dX5_madeIn_82 : decode cX5_madeIn 82 = .ok (.iconst 0, 1) := by decide +kernel
theorem dX5_madeIn_83 : decode cX5_madeIn 83 = .ok (.istore_n 3, 1) := by decide +kernel
theorem dX5_madeIn_84 : decode cX5_madeIn 84 = .ok (.iload_n 3, 1) := by decide +kernel
theorem dX5_madeIn_85 : decode cX5_madeIn 85 = .ok (.aload_n 0, 1) := by decide +kernel
theorem dX5_madeIn_86 : decode cX5_madeIn 86 = .ok (.getfield 26, 3) := by decide +kernel
theorem dX5_madeIn_89 : decode cX5_madeIn 89 = .ok (.if_icmp .ge 24, 3) := by decide +kernel
theorem dX5_madeIn_92 : decode cX5_madeIn 92 = .ok (.iload_n 2, 1) := by decide +kernel
theorem dX5_madeIn_93 : decode cX5_madeIn 93 = .ok (.aload_n 0, 1) := by decide +kernel
theorem dX5_madeIn_94 : decode cX5_madeIn 94 = .ok (.getfield 22, 3) := by decide +kernel
theorem dX5_madeIn_97 : decode cX5_madeIn 97 = .ok (.iload_n 3, 1) := by decide +kernel
theorem dX5_madeIn_98 : decode cX5_madeIn 98 = .ok (.aaload, 1) := by decide +kernel
theorem dX5_madeIn_99 : decode cX5_madeIn 99 = .ok (.getfield 77, 3) := by decide +kernel
theorem dX5_madeIn_102 : decode cX5_madeIn 102 = .ok (.if_icmp .ge 5, 3) := by decide +kernel
theorem dX5_madeIn_105 : decode cX5_madeIn 105 = .ok (.iload_n 3, 1) := by decide +kernel
theorem dX5_madeIn_106 : decode cX5_madeIn 106 = .ok (.ireturn, 1) := by decide +kernel
theorem dX5_madeIn_107 : decode cX5_madeIn 107 = .ok (.iinc 3 1, 3) := by decide +kernel
theorem dX5_madeIn_110 : decode cX5_madeIn 110 = .ok (.goto (-26), 3) := by decide +kernel
theorem dX5_madeIn_113 : decode cX5_madeIn 113 = .ok (.iconst (-1), 1) := by decide +kernel
theorem dX5_madeIn_114 : decode cX5_madeIn 114 = .ok (.ireturn, 1) := by decide +kernel
theorem dX5_inHandIn_0 : decode cX5_inHandIn 0 = .ok (.iconst 0, 1) := by decide +kernel
theorem dX5_inHandIn_1 : decode cX5_inHandIn 1 = .ok (.istore_n 2, 1) := by decide +kernel
theorem dX5_inHandIn_2 : decode cX5_inHandIn 2 = .ok (.iload_n 2, 1) := by decide +kernel
theorem dX5_inHandIn_3 : decode cX5_inHandIn 3 = .ok (.aload_n 0, 1) := by decide +kernel
theorem dX5_inHandIn_4 : decode cX5_inHandIn 4 = .ok (.getfield 26, 3) := by decide +kernel
theorem dX5_inHandIn_7 : decode cX5_inHandIn 7 = .ok (.if_icmp .ge 61, 3) := by decide +kernel
theorem dX5_inHandIn_10 : decode cX5_inHandIn 10 = .ok (.aload_n 0, 1) := by decide +kernel
theorem dX5_inHandIn_11 : decode cX5_inHandIn 11 = .ok (.getfield 22, 3) := by decide +kernel
theorem dX5_inHandIn_14 : decode cX5_inHandIn 14 = .ok (.iload_n 2, 1) := by decide +kernel
theorem dX5_inHandIn_15 : decode cX5_inHandIn 15 = .ok (.aaload, 1) := by decide +kernel
theorem dX5_inHandIn_16 : decode cX5_inHandIn 16 = .ok (.astore_n 3, 1) := by decide +kernel
theorem dX5_inHandIn_17 : decode cX5_inHandIn 17 = .ok (.aload_n 3, 1) := by decide +kernel
theorem dX5_inHandIn_18 : decode cX5_inHandIn 18 = .ok (.getfield 83, 3) := by decide +kernel
theorem dX5_inHandIn_21 : decode cX5_inHandIn 21 = .ok (.iconst (-1), 1) := by decide +kernel
theorem dX5_inHandIn_22 : decode cX5_inHandIn 22 = .ok (.if_icmp .ne 10, 3) := by decide +kernel
theorem dX5_inHandIn_25 : decode cX5_inHandIn 25 = .ok (.aload_n 3, 1) := by decide +kernel
theorem dX5_inHandIn_26 : decode cX5_inHandIn 26 = .ok (.getfield 114, 3) := by decide +kernel
theorem dX5_inHandIn_29 : decode cX5_inHandIn 29 = .ok (.goto 7, 3) := by decide +kernel
theorem dX5_inHandIn_32 : decode cX5_inHandIn 32 = .ok (.aload_n 3, 1) := by decide +kernel
theorem dX5_inHandIn_33 : decode cX5_inHandIn 33 = .ok (.getfield 83, 3) := by decide +kernel
theorem dX5_inHandIn_36 : decode cX5_inHandIn 36 = .ok (.istore 4, 2) := by decide +kernel
theorem dX5_inHandIn_38 : decode cX5_inHandIn 38 = .ok (.aload_n 3, 1) := by decide +kernel
theorem dX5_inHandIn_39 : decode cX5_inHandIn 39 = .ok (.getfield 111, 3) := by decide +kernel
theorem dX5_inHandIn_42 : decode cX5_inHandIn 42 = .ok (.iconst (-1), 1) := by decide +kernel
theorem dX5_inHandIn_43 : decode cX5_inHandIn 43 = .ok (.if_icmp .eq 19, 3) := by decide +kernel
theorem dX5_inHandIn_46 : decode cX5_inHandIn 46 = .ok (.aload_n 3, 1) := by decide +kernel
theorem dX5_inHandIn_47 : decode cX5_inHandIn 47 = .ok (.getfield 111, 3) := by decide +kernel
theorem dX5_inHandIn_50 : decode cX5_inHandIn 50 = .ok (.iload_n 1, 1) := by decide +kernel
theorem dX5_inHandIn_51 : decode cX5_inHandIn 51 = .ok (.if_icmp .gt 11, 3) := by decide +kernel
theorem dX5_inHandIn_54 : decode cX5_inHandIn 54 = .ok (.iload_n 1, 1) := by decide +kernel
theorem dX5_inHandIn_55 : decode cX5_inHandIn 55 = .ok (.iload 4, 2) := by decide +kernel
theorem dX5_inHandIn_57 : decode cX5_inHandIn 57 = .ok (.if_icmp .ge 5, 3) := by decide +kernel
theorem dX5_inHandIn_60 : decode cX5_inHandIn 60 = .ok (.iload_n 2, 1) := by decide +kernel
theorem dX5_inHandIn_61 : decode cX5_inHandIn 61 = .ok (.ireturn, 1) := by decide +kernel
theorem dX5_inHandIn_62 : decode cX5_inHandIn 62 = .ok (.iinc 2 1, 3) := by decide +kernel
theorem dX5_inHandIn_65 : decode cX5_inHandIn 65 = .ok (.goto (-63), 3) := by decide +kernel
theorem dX5_inHandIn_68 : decode cX5_inHandIn 68 = .ok (.iconst (-1), 1) := by decide +kernel
theorem dX5_inHandIn_69 : decode cX5_inHandIn 69 = .ok (.ireturn, 1) := by decide +kernel
theorem dX6_init_0 : decode cX6_init 0 = .ok (.aload_n 0, 1) := by decide +kernel
theorem dX6_init_1 : decode cX6_init 1 = .ok (.invokespecial 3, 3) := by decide +kernel
theorem dX6_init_4 : decode cX6_init 4 = .ok (.return_, 1) := by decide +kernel
theorem dX6_beStart_0 : decode cX6_beStart 0 = .ok (.aload_n 0, 1) := by decide +kernel
theorem dX6_beStart_1 : decode cX6_beStart 1 = .ok (.invokevirtual 9, 3) := by decide +kernel
theorem dX6_beStart_4 : decode cX6_beStart 4 = .ok (.aload_n 0, 1) := by decide +kernel
theorem dX6_beStart_5 : decode cX6_beStart 5 = .ok (.iconst 0, 1) := by decide +kernel
theorem dX6_beStart_6 : decode cX6_beStart 6 = .ok (.putfield 14, 3) := by decide +kernel
theorem dX6_beStart_9 : decode cX6_beStart 9 = .ok (.aload_n 0, 1) := by decide +kernel
theorem dX6_beStart_10 : decode cX6_beStart 10 = .ok (.iload_n 1, 1) := by decide +kernel
theorem dX6_beStart_11 : decode cX6_beStart 11 = .ok (.putfield 18, 3) := by decide +kernel
theorem dX6_beStart_14 : decode cX6_beStart 14 = .ok (.return_, 1) := by decide +kernel
theorem dX6_follow_0 : decode cX6_follow 0 = .ok (.aload_n 0, 1) := by decide +kernel
theorem dX6_follow_1 : decode cX6_follow 1 = .ok (.invokevirtual 9, 3) := by decide +kernel
theorem dX6_follow_4 : decode cX6_follow 4 = .ok (.aload_n 0, 1) := by decide +kernel
theorem dX6_follow_5 : decode cX6_follow 5 = .ok (.aload_n 1, 1) := by decide +kernel
theorem dX6_follow_6 : decode cX6_follow 6 = .ok (.getfield 21, 3) := by decide +kernel
theorem dX6_follow_9 : decode cX6_follow 9 = .ok (.aload_n 0, 1) := by decide +kernel
theorem dX6_follow_10 : decode cX6_follow 10 = .ok (.getfield 24, 3) := by decide +kernel
theorem dX6_follow_13 : decode cX6_follow 13 = .ok (.iadd, 1) := by decide +kernel
theorem dX6_follow_14 : decode cX6_follow 14 = .ok (.putfield 21, 3) := by decide +kernel
theorem dX6_follow_17 : decode cX6_follow 17 = .ok (.aload_n 0, 1) := by decide +kernel
theorem dX6_follow_18 : decode cX6_follow 18 = .ok (.aload_n 1, 1) := by decide +kernel
theorem dX6_follow_19 : decode cX6_follow 19 = .ok (.getfield 18, 3) := by decide +kernel
theorem dX6_follow_22 : decode cX6_follow 22 = .ok (.putfield 18, 3) := by decide +kernel
theorem dX6_follow_25 : decode cX6_follow 25 = .ok (.aload_n 0, 1) := by decide +kernel
theorem dX6_follow_26 : decode cX6_follow 26 = .ok (.aload_n 1, 1) := by decide +kernel
theorem dX6_follow_27 : decode cX6_follow 27 = .ok (.getfield 27, 3) := by decide +kernel
theorem dX6_follow_30 : decode cX6_follow 30 = .ok (.putfield 27, 3) := by decide +kernel
theorem dX6_follow_33 : decode cX6_follow 33 = .ok (.aload_n 0, 1) := by decide +kernel
theorem dX6_follow_34 : decode cX6_follow 34 = .ok (.aload_n 1, 1) := by decide +kernel
theorem dX6_follow_35 : decode cX6_follow 35 = .ok (.getfield 30, 3) := by decide +kernel
theorem dX6_follow_38 : decode cX6_follow 38 = .ok (.putfield 30, 3) := by decide +kernel
theorem dX6_follow_41 : decode cX6_follow 41 = .ok (.aload_n 0, 1) := by decide +kernel
theorem dX6_follow_42 : decode cX6_follow 42 = .ok (.aload_n 1, 1) := by decide +kernel
theorem dX6_follow_43 : decode cX6_follow 43 = .ok (.getfield 33, 3) := by decide +kernel
theorem dX6_follow_46 : decode cX6_follow 46 = .ok (.putfield 33, 3) := by decide +kernel
theorem dX6_follow_49 : decode cX6_follow 49 = .ok (.return_, 1) := by decide +kernel
theorem dX6_comeToNothing_0 : decode cX6_comeToNothing 0 = .ok (.aload_n 0, 1) := by decide +kernel
theorem dX6_comeToNothing_1 : decode cX6_comeToNothing 1 = .ok (.iconst (-1), 1) := by decide +kernel
theorem dX6_comeToNothing_2 : decode cX6_comeToNothing 2 = .ok (.putfield 36, 3) := by decide +kernel
theorem dX6_comeToNothing_5 : decode cX6_comeToNothing 5 = .ok (.aload_n 0, 1) := by decide +kernel
theorem dX6_comeToNothing_6 : decode cX6_comeToNothing 6 = .ok (.iconst (-1), 1) := by decide +kernel
theorem dX6_comeToNothing_7 : decode cX6_comeToNothing 7 = .ok (.putfield 39, 3) := by decide +kernel
theorem dX6_comeToNothing_10 : decode cX6_comeToNothing 10 = .ok (.aload_n 0, 1) := by decide +kernel
theorem dX6_comeToNothing_11 : decode cX6_comeToNothing 11 = .ok (.iconst (-1), 1) := by decide +kernel
theorem dX6_comeToNothing_12 : decode cX6_comeToNothing 12 = .ok (.putfield 42, 3) := by decide +kernel
theorem dX6_comeToNothing_15 : decode cX6_comeToNothing 15 = .ok (.aload_n 0, 1) := by decide +kernel
theorem dX6_comeToNothing_16 : decode cX6_comeToNothing 16 = .ok (.iconst (-1), 1) := by decide +kernel
theorem dX6_comeToNothing_17 : decode cX6_comeToNothing 17 = .ok (.putfield 14, 3) := by decide +kernel
theorem dX6_comeToNothing_20 : decode cX6_comeToNothing 20 = .ok (.aload_n 0, 1) := by decide +kernel
theorem dX6_comeToNothing_21 : decode cX6_comeToNothing 21 = .ok (.iconst (-1), 1) := by decide +kernel
theorem dX6_comeToNothing_22 : decode cX6_comeToNothing 22 = .ok (.putfield 45, 3) := by decide +kernel
theorem dX6_comeToNothing_25 : decode cX6_comeToNothing 25 = .ok (.return_, 1) := by decide +kernel
theorem dX6_beSaid_0 : decode cX6_beSaid 0 = .ok (.aload_n 0, 1) := by decide +kernel
theorem dX6_beSaid_1 : decode cX6_beSaid 1 = .ok (.iconst 0, 1) := by decide +kernel
theorem dX6_beSaid_2 : decode cX6_beSaid 2 = .ok (.aload_n 0, 1) := by decide +kernel
theorem dX6_beSaid_3 : decode cX6_beSaid 3 = .ok (.getfield 21, 3) := by decide +kernel
theorem dX6_beSaid_6 : decode cX6_beSaid 6 = .ok (.aload_n 0, 1) := by decide +kernel
theorem dX6_beSaid_7 : decode cX6_beSaid 7 = .ok (.getfield 18, 3) := by decide +kernel
theorem dX6_beSaid_10 : decode cX6_beSaid 10 = .ok (.isub, 1) := by decide +kernel
theorem dX6_beSaid_11 : decode cX6_beSaid 11 = .ok (.invokestatic 48, 3) := by decide +kernel
theorem dX6_beSaid_14 : decode cX6_beSaid 14 = .ok (.putfield 45, 3) := by decide +kernel
theorem dX6_beSaid_17 : decode cX6_beSaid 17 = .ok (.aload_n 0, 1) := by decide +kernel
theorem dX6_beSaid_18 : decode cX6_beSaid 18 = .ok (.dup, 1) := by decide +kernel
theorem dX6_beSaid_19 : decode cX6_beSaid 19 = .ok (.getfield 27, 3) := by decide +kernel
theorem dX6_beSaid_22 : decode cX6_beSaid 22 = .ok (.aload_n 0, 1) := by decide +kernel
theorem dX6_beSaid_23 : decode cX6_beSaid 23 = .ok (.getfield 45, 3) := by decide +kernel
theorem dX6_beSaid_26 : decode cX6_beSaid 26 = .ok (.iadd, 1) := by decide +kernel
theorem dX6_beSaid_27 : decode cX6_beSaid 27 = .ok (.putfield 27, 3) := by decide +kernel
theorem dX6_beSaid_30 : decode cX6_beSaid 30 = .ok (.aload_n 0, 1) := by decide +kernel
theorem dX6_beSaid_31 : decode cX6_beSaid 31 = .ok (.iload_n 1, 1) := by decide +kernel
theorem dX6_beSaid_32 : decode cX6_beSaid 32 = .ok (.aload_n 0, 1) := by decide +kernel
theorem dX6_beSaid_33 : decode cX6_beSaid 33 = .ok (.getfield 45, 3) := by decide +kernel
theorem dX6_beSaid_36 : decode cX6_beSaid 36 = .ok (.iadd, 1) := by decide +kernel
theorem dX6_beSaid_37 : decode cX6_beSaid 37 = .ok (.putfield 36, 3) := by decide +kernel
theorem dX6_beSaid_40 : decode cX6_beSaid 40 = .ok (.aload_n 0, 1) := by decide +kernel
theorem dX6_beSaid_41 : decode cX6_beSaid 41 = .ok (.dup, 1) := by decide +kernel
theorem dX6_beSaid_42 : decode cX6_beSaid 42 = .ok (.getfield 18, 3) := by decide +kernel
theorem dX6_beSaid_45 : decode cX6_beSaid 45 = .ok (.aload_n 0, 1) := by decide +kernel
theorem dX6_beSaid_46 : decode cX6_beSaid 46 = .ok (.getfield 45, 3) := by decide +kernel
theorem dX6_beSaid_49 : decode cX6_beSaid 49 = .ok (.iadd, 1) := by decide +kernel
theorem dX6_beSaid_50 : decode cX6_beSaid 50 = .ok (.putfield 18, 3) := by decide +kernel
theorem dX6_beSaid_53 : decode cX6_beSaid 53 = .ok (.aload_n 0, 1) := by decide +kernel
theorem dX6_beSaid_54 : decode cX6_beSaid 54 = .ok (.aload_n 0, 1) := by decide +kernel
theorem dX6_beSaid_55 : decode cX6_beSaid 55 = .ok (.getfield 18, 3) := by decide +kernel
theorem dX6_beSaid_58 : decode cX6_beSaid 58 = .ok (.aload_n 0, 1) := by decide +kernel
theorem dX6_beSaid_59 : decode cX6_beSaid 59 = .ok (.getfield 21, 3) := by decide +kernel
theorem dX6_beSaid_62 : decode cX6_beSaid 62 = .ok (.isub, 1) := by decide +kernel
theorem dX6_beSaid_63 : decode cX6_beSaid 63 = .ok (.putfield 54, 3) := by decide +kernel
theorem dX6_beSaid_66 : decode cX6_beSaid 66 = .ok (.aload_n 0, 1) := by decide +kernel
theorem dX6_beSaid_67 : decode cX6_beSaid 67 = .ok (.aload_n 0, 1) := by decide +kernel
theorem dX6_beSaid_68 : decode cX6_beSaid 68 = .ok (.getfield 36, 3) := by decide +kernel
theorem dX6_beSaid_71 : decode cX6_beSaid 71 = .ok (.aload_n 0, 1) := by decide +kernel
theorem dX6_beSaid_72 : decode cX6_beSaid 72 = .ok (.getfield 57, 3) := by decide +kernel
theorem dX6_beSaid_75 : decode cX6_beSaid 75 = .ok (.iadd, 1) := by decide +kernel
theorem dX6_beSaid_76 : decode cX6_beSaid 76 = .ok (.putfield 39, 3) := by decide +kernel
theorem dX6_beSaid_79 : decode cX6_beSaid 79 = .ok (.aload_n 0, 1) := by decide +kernel
theorem dX6_beSaid_80 : decode cX6_beSaid 80 = .ok (.getfield 60, 3) := by decide +kernel
theorem dX6_beSaid_83 : decode cX6_beSaid 83 = .ok (.iconst 2, 1) := by decide +kernel
theorem dX6_beSaid_84 : decode cX6_beSaid 84 = .ok (.if_icmp .ne 16, 3) := by decide +kernel
theorem dX6_beSaid_87 : decode cX6_beSaid 87 = .ok (.aload_n 0, 1) := by decide +kernel
theorem dX6_beSaid_88 : decode cX6_beSaid 88 = .ok (.dup, 1) := by decide +kernel
theorem dX6_beSaid_89 : decode cX6_beSaid 89 = .ok (.getfield 18, 3) := by decide +kernel
theorem dX6_beSaid_92 : decode cX6_beSaid 92 = .ok (.aload_n 0, 1) := by decide +kernel
theorem dX6_beSaid_93 : decode cX6_beSaid 93 = .ok (.getfield 57, 3) := by decide +kernel
theorem dX6_beSaid_96 : decode cX6_beSaid 96 = .ok (.iadd, 1) := by decide +kernel
theorem dX6_beSaid_97 : decode cX6_beSaid 97 = .ok (.putfield 18, 3) := by decide +kernel
theorem dX6_beSaid_100 : decode cX6_beSaid 100 = .ok (.aload_n 0, 1) := by decide +kernel
theorem dX6_beSaid_101 : decode cX6_beSaid 101 = .ok (.aload_n 0, 1) := by decide +kernel
theorem dX6_beSaid_102 : decode cX6_beSaid 102 = .ok (.getfield 39, 3) := by decide +kernel
theorem dX6_beSaid_105 : decode cX6_beSaid 105 = .ok (.aload_n 0, 1) := by decide +kernel
theorem dX6_beSaid_106 : decode cX6_beSaid 106 = .ok (.getfield 63, 3) := by decide +kernel
theorem dX6_beSaid_109 : decode cX6_beSaid 109 = .ok (.iadd, 1) := by decide +kernel
theorem dX6_beSaid_110 : decode cX6_beSaid 110 = .ok (.putfield 42, 3) := by decide +kernel
theorem dX6_beSaid_113 : decode cX6_beSaid 113 = .ok (.aload_n 0, 1) := by decide +kernel
theorem dX6_beSaid_114 : decode cX6_beSaid 114 = .ok (.dup, 1) := by decide +kernel
theorem dX6_beSaid_115 : decode cX6_beSaid 115 = .ok (.getfield 18, 3) := by decide +kernel
theorem dX6_beSaid_118 : decode cX6_beSaid 118 = .ok (.aload_n 0, 1) := by decide +kernel
theorem dX6_beSaid_119 : decode cX6_beSaid 119 = .ok (.getfield 63, 3) := by decide +kernel
theorem dX6_beSaid_122 : decode cX6_beSaid 122 = .ok (.iadd, 1) := by decide +kernel
theorem dX6_beSaid_123 : decode cX6_beSaid 123 = .ok (.putfield 18, 3) := by decide +kernel
theorem dX6_beSaid_126 : decode cX6_beSaid 126 = .ok (.return_, 1) := by decide +kernel
theorem dX6_beWritten_0 : decode cX6_beWritten 0 = .ok (.aload_n 0, 1) := by decide +kernel
theorem dX6_beWritten_1 : decode cX6_beWritten 1 = .ok (.getfield 60, 3) := by decide +kernel
theorem dX6_beWritten_4 : decode cX6_beWritten 4 = .ok (.iconst 3, 1) := by decide +kernel
theorem dX6_beWritten_5 : decode cX6_beWritten 5 = .ok (.if_icmp .ne 12, 3) := by decide +kernel
theorem dX6_beWritten_8 : decode cX6_beWritten 8 = .ok (.aload_n 0, 1) := by decide +kernel
theorem dX6_beWritten_9 : decode cX6_beWritten 9 = .ok (.getfield 57, 3) := by decide +kernel
theorem dX6_beWritten_12 : decode cX6_beWritten 12 = .ok (.iconst 2, 1) := by decide +kernel
theorem dX6_beWritten_13 : decode cX6_beWritten 13 = .ok (.iadd, 1) := by decide +kernel
theorem dX6_beWritten_14 : decode cX6_beWritten 14 = .ok (.goto 7, 3) := by decide +kernel
theorem dX6_beWritten_17 : decode cX6_beWritten 17 = .ok (.aload_n 0, 1) := by decide +kernel
theorem dX6_beWritten_18 : decode cX6_beWritten 18 = .ok (.getfield 57, 3) := by decide +kernel
theorem dX6_beWritten_21 : decode cX6_beWritten 21 = .ok (.istore 4, 2) := by decide +kernel
theorem dX6_beWritten_23 : decode cX6_beWritten 23 = .ok (.iconst 0, 1) := by decide +kernel
theorem dX6_beWritten_24 : decode cX6_beWritten 24 = .ok (.istore 5, 2) := by decide +kernel
theorem dX6_beWritten_26 : decode cX6_beWritten 26 = .ok (.aload_n 0, 1) := by decide +kernel
theorem dX6_beWritten_27 : decode cX6_beWritten 27 = .ok (.getfield 30, 3) := by decide +kernel
theorem dX6_beWritten_30 : decode cX6_beWritten 30 = .ok (.ifCond .le 41, 3) := by decide +kernel
theorem dX6_beWritten_33 : decode cX6_beWritten 33 = .ok (.aload_n 0, 1) := by decide +kernel
theorem dX6_beWritten_34 : decode cX6_beWritten 34 = .ok (.getfield 30, 3) := by decide +kernel
theorem dX6_beWritten_37 : decode cX6_beWritten 37 = .ok (.iload 4, 2) := by decide +kernel
theorem dX6_beWritten_39 : decode cX6_beWritten 39 = .ok (.iadd, 1) := by decide +kernel
theorem dX6_beWritten_40 : decode cX6_beWritten 40 = .ok (.iload_n 1, 1) := by decide +kernel
theorem dX6_beWritten_41 : decode cX6_beWritten 41 = .ok (.if_icmp .le 30, 3) := by decide +kernel
theorem dX6_beWritten_44 : decode cX6_beWritten 44 = .ok (.aload_n 0, 1) := by decide +kernel
theorem dX6_beWritten_45 : decode cX6_beWritten 45 = .ok (.getfield 33, 3) := by decide +kernel
theorem dX6_beWritten_48 : decode cX6_beWritten 48 = .ok (.iload_n 3, 1) := by decide +kernel
theorem dX6_beWritten_49 : decode cX6_beWritten 49 = .ok (.if_icmp .lt 4, 3) := by decide +kernel
theorem dX6_beWritten_52 : decode cX6_beWritten 52 = .ok (.return_, 1) := by decide +kernel
theorem dX6_beWritten_53 : decode cX6_beWritten 53 = .ok (.aload_n 0, 1) := by decide +kernel
theorem dX6_beWritten_54 : decode cX6_beWritten 54 = .ok (.dup, 1) := by decide +kernel
theorem dX6_beWritten_55 : decode cX6_beWritten 55 = .ok (.getfield 33, 3) := by decide +kernel
theorem dX6_beWritten_58 : decode cX6_beWritten 58 = .ok (.iconst 1, 1) := by decide +kernel
theorem dX6_beWritten_59 : decode cX6_beWritten 59 = .ok (.iadd, 1) := by decide +kernel
theorem dX6_beWritten_60 : decode cX6_beWritten 60 = .ok (.putfield 33, 3) := by decide +kernel
theorem dX6_beWritten_63 : decode cX6_beWritten 63 = .ok (.aload_n 0, 1) := by decide +kernel
theorem dX6_beWritten_64 : decode cX6_beWritten 64 = .ok (.iconst 0, 1) := by decide +kernel
theorem dX6_beWritten_65 : decode cX6_beWritten 65 = .ok (.putfield 30, 3) := by decide +kernel
theorem dX6_beWritten_68 : decode cX6_beWritten 68 = .ok (.iload_n 2, 1) := by decide +kernel
theorem dX6_beWritten_69 : decode cX6_beWritten 69 = .ok (.istore 5, 2) := by decide +kernel
theorem dX6_beWritten_71 : decode cX6_beWritten 71 = .ok (.aload_n 0, 1) := by decide +kernel
theorem dX6_beWritten_72 : decode cX6_beWritten 72 = .ok (.dup, 1) := by decide +kernel
theorem dX6_beWritten_73 : decode cX6_beWritten 73 = .ok (.getfield 30, 3) := by decide +kernel
theorem dX6_beWritten_76 : decode cX6_beWritten 76 = .ok (.iload 4, 2) := by decide +kernel
theorem dX6_beWritten_78 : decode cX6_beWritten 78 = .ok (.iadd, 1) := by decide +kernel
theorem dX6_beWritten_79 : decode cX6_beWritten 79 = .ok (.putfield 30, 3) := by decide +kernel
theorem dX6_beWritten_82 : decode cX6_beWritten 82 = .ok (.aload_n 0, 1) := by decide +kernel
theorem dX6_beWritten_83 : decode cX6_beWritten 83 = .ok (.aload_n 0, 1) := by decide +kernel
theorem dX6_beWritten_84 : decode cX6_beWritten 84 = .ok (.getfield 42, 3) := by decide +kernel
theorem dX6_beWritten_87 : decode cX6_beWritten 87 = .ok (.iload 5, 2) := by decide +kernel
theorem dX6_beWritten_89 : decode cX6_beWritten 89 = .ok (.iadd, 1) := by decide +kernel
theorem dX6_beWritten_90 : decode cX6_beWritten 90 = .ok (.iload 4, 2) := by decide +kernel
theorem dX6_beWritten_92 : decode cX6_beWritten 92 = .ok (.iadd, 1) := by decide +kernel
theorem dX6_beWritten_93 : decode cX6_beWritten 93 = .ok (.putfield 14, 3) := by decide +kernel
theorem dX6_beWritten_96 : decode cX6_beWritten 96 = .ok (.aload_n 0, 1) := by decide +kernel
theorem dX6_beWritten_97 : decode cX6_beWritten 97 = .ok (.dup, 1) := by decide +kernel
theorem dX6_beWritten_98 : decode cX6_beWritten 98 = .ok (.getfield 18, 3) := by decide +kernel
theorem dX6_beWritten_101 : decode cX6_beWritten 101 = .ok (.iload 5, 2) := by decide +kernel
theorem dX6_beWritten_103 : decode cX6_beWritten 103 = .ok (.iload 4, 2) := by decide +kernel
theorem dX6_beWritten_105 : decode cX6_beWritten 105 = .ok (.iadd, 1) := by decide +kernel
theorem dX6_beWritten_106 : decode cX6_beWritten 106 = .ok (.iadd, 1) := by decide +kernel
theorem dX6_beWritten_107 : decode cX6_beWritten 107 = .ok (.putfield 18, 3) := by decide +kernel
theorem dX6_beWritten_110 : decode cX6_beWritten 110 = .ok (.return_, 1) := by decide +kernel
theorem dJ6_bitCount_0f7a4_0 : decode cJ6_bitCount_0f7a4 0 = .ok (.iload_n 0, 1) := by decide +kernel
theorem dJ6_bitCount_0f7a4_1 : decode cJ6_bitCount_0f7a4 1 = .ok (.iload_n 0, 1) := by decide +kernel
theorem dJ6_bitCount_0f7a4_2 : decode cJ6_bitCount_0f7a4 2 = .ok (.iconst 1, 1) := by decide +kernel
theorem dJ6_bitCount_0f7a4_3 : decode cJ6_bitCount_0f7a4 3 = .ok (.iushr, 1) := by decide +kernel
theorem dJ6_bitCount_0f7a4_4 : decode cJ6_bitCount_0f7a4 4 = .ok (.ldc_w 265, 3) := by decide +kernel
theorem dJ6_bitCount_0f7a4_7 : decode cJ6_bitCount_0f7a4 7 = .ok (.iand, 1) := by decide +kernel
theorem dJ6_bitCount_0f7a4_8 : decode cJ6_bitCount_0f7a4 8 = .ok (.isub, 1) := by decide +kernel
theorem dJ6_bitCount_0f7a4_9 : decode cJ6_bitCount_0f7a4 9 = .ok (.istore_n 0, 1) := by decide +kernel
theorem dJ6_bitCount_0f7a4_10 : decode cJ6_bitCount_0f7a4 10 = .ok (.iload_n 0, 1) := by decide +kernel
theorem dJ6_bitCount_0f7a4_11 : decode cJ6_bitCount_0f7a4 11 = .ok (.ldc_w 266, 3) := by decide +kernel
theorem dJ6_bitCount_0f7a4_14 : decode cJ6_bitCount_0f7a4 14 = .ok (.iand, 1) := by decide +kernel
theorem dJ6_bitCount_0f7a4_15 : decode cJ6_bitCount_0f7a4 15 = .ok (.iload_n 0, 1) := by decide +kernel
theorem dJ6_bitCount_0f7a4_16 : decode cJ6_bitCount_0f7a4 16 = .ok (.iconst 2, 1) := by decide +kernel
theorem dJ6_bitCount_0f7a4_17 : decode cJ6_bitCount_0f7a4 17 = .ok (.iushr, 1) := by decide +kernel
theorem dJ6_bitCount_0f7a4_18 : decode cJ6_bitCount_0f7a4 18 = .ok (.ldc_w 266, 3) := by decide +kernel
theorem dJ6_bitCount_0f7a4_21 : decode cJ6_bitCount_0f7a4 21 = .ok (.iand, 1) := by decide +kernel
theorem dJ6_bitCount_0f7a4_22 : decode cJ6_bitCount_0f7a4 22 = .ok (.iadd, 1) := by decide +kernel
theorem dJ6_bitCount_0f7a4_23 : decode cJ6_bitCount_0f7a4 23 = .ok (.istore_n 0, 1) := by decide +kernel
theorem dJ6_bitCount_0f7a4_24 : decode cJ6_bitCount_0f7a4 24 = .ok (.iload_n 0, 1) := by decide +kernel
theorem dJ6_bitCount_0f7a4_25 : decode cJ6_bitCount_0f7a4 25 = .ok (.iload_n 0, 1) := by decide +kernel
theorem dJ6_bitCount_0f7a4_26 : decode cJ6_bitCount_0f7a4 26 = .ok (.iconst 4, 1) := by decide +kernel
theorem dJ6_bitCount_0f7a4_27 : decode cJ6_bitCount_0f7a4 27 = .ok (.iushr, 1) := by decide +kernel
theorem dJ6_bitCount_0f7a4_28 : decode cJ6_bitCount_0f7a4 28 = .ok (.iadd, 1) := by decide +kernel
theorem dJ6_bitCount_0f7a4_29 : decode cJ6_bitCount_0f7a4 29 = .ok (.ldc_w 267, 3) := by decide +kernel
theorem dJ6_bitCount_0f7a4_32 : decode cJ6_bitCount_0f7a4 32 = .ok (.iand, 1) := by decide +kernel
theorem dJ6_bitCount_0f7a4_33 : decode cJ6_bitCount_0f7a4 33 = .ok (.istore_n 0, 1) := by decide +kernel
theorem dJ6_bitCount_0f7a4_34 : decode cJ6_bitCount_0f7a4 34 = .ok (.iload_n 0, 1) := by decide +kernel
theorem dJ6_bitCount_0f7a4_35 : decode cJ6_bitCount_0f7a4 35 = .ok (.iload_n 0, 1) := by decide +kernel
theorem dJ6_bitCount_0f7a4_36 : decode cJ6_bitCount_0f7a4 36 = .ok (.bipush 8, 2) := by decide +kernel
theorem dJ6_bitCount_0f7a4_38 : decode cJ6_bitCount_0f7a4 38 = .ok (.iushr, 1) := by decide +kernel
theorem dJ6_bitCount_0f7a4_39 : decode cJ6_bitCount_0f7a4 39 = .ok (.iadd, 1) := by decide +kernel
theorem dJ6_bitCount_0f7a4_40 : decode cJ6_bitCount_0f7a4 40 = .ok (.istore_n 0, 1) := by decide +kernel
theorem dJ6_bitCount_0f7a4_41 : decode cJ6_bitCount_0f7a4 41 = .ok (.iload_n 0, 1) := by decide +kernel
theorem dJ6_bitCount_0f7a4_42 : decode cJ6_bitCount_0f7a4 42 = .ok (.iload_n 0, 1) := by decide +kernel
theorem dJ6_bitCount_0f7a4_43 : decode cJ6_bitCount_0f7a4 43 = .ok (.bipush 16, 2) := by decide +kernel
theorem dJ6_bitCount_0f7a4_45 : decode cJ6_bitCount_0f7a4 45 = .ok (.iushr, 1) := by decide +kernel
theorem dJ6_bitCount_0f7a4_46 : decode cJ6_bitCount_0f7a4 46 = .ok (.iadd, 1) := by decide +kernel
theorem dJ6_bitCount_0f7a4_47 : decode cJ6_bitCount_0f7a4 47 = .ok (.istore_n 0, 1) := by decide +kernel
theorem dJ6_bitCount_0f7a4_48 : decode cJ6_bitCount_0f7a4 48 = .ok (.iload_n 0, 1) := by decide +kernel
theorem dJ6_bitCount_0f7a4_49 : decode cJ6_bitCount_0f7a4 49 = .ok (.bipush 63, 2) := by decide +kernel
theorem dJ6_bitCount_0f7a4_51 : decode cJ6_bitCount_0f7a4 51 = .ok (.iand, 1) := by decide +kernel
theorem dJ6_bitCount_0f7a4_52 : decode cJ6_bitCount_0f7a4 52 = .ok (.ireturn, 1) := by decide +kernel
theorem dX7_init_0 : decode cX7_init 0 = .ok (.aload_n 0, 1) := by decide +kernel
theorem dX7_init_1 : decode cX7_init 1 = .ok (.invokespecial 1, 3) := by decide +kernel
theorem dX7_init_4 : decode cX7_init 4 = .ok (.aload_n 0, 1) := by decide +kernel
theorem dX7_init_5 : decode cX7_init 5 = .ok (.bipush 6, 2) := by decide +kernel
theorem dX7_init_7 : decode cX7_init 7 = .ok (.newarray .int, 2) := by decide +kernel
theorem dX7_init_9 : decode cX7_init 9 = .ok (.dup, 1) := by decide +kernel
theorem dX7_init_10 : decode cX7_init 10 = .ok (.iconst 0, 1) := by decide +kernel
theorem dX7_init_11 : decode cX7_init 11 = .ok (.iconst 0, 1) := by decide +kernel
theorem dX7_init_12 : decode cX7_init 12 = .ok (.iastore, 1) := by decide +kernel
theorem dX7_init_13 : decode cX7_init 13 = .ok (.dup, 1) := by decide +kernel
theorem dX7_init_14 : decode cX7_init 14 = .ok (.iconst 1, 1) := by decide +kernel
theorem dX7_init_15 : decode cX7_init 15 = .ok (.bipush 99, 2) := by decide +kernel
theorem dX7_init_17 : decode cX7_init 17 = .ok (.iastore, 1) := by decide +kernel
theorem dX7_init_18 : decode cX7_init 18 = .ok (.dup, 1) := by decide +kernel
theorem dX7_init_19 : decode cX7_init 19 = .ok (.iconst 2, 1) := by decide +kernel
theorem dX7_init_20 : decode cX7_init 20 = .ok (.iconst 0, 1) := by decide +kernel
theorem dX7_init_21 : decode cX7_init 21 = .ok (.iastore, 1) := by decide +kernel
theorem dX7_init_22 : decode cX7_init 22 = .ok (.dup, 1) := by decide +kernel
theorem dX7_init_23 : decode cX7_init 23 = .ok (.iconst 3, 1) := by decide +kernel
theorem dX7_init_24 : decode cX7_init 24 = .ok (.bipush 9, 2) := by decide +kernel
theorem dX7_init_26 : decode cX7_init 26 = .ok (.iastore, 1) := by decide +kernel
theorem dX7_init_27 : decode cX7_init 27 = .ok (.dup, 1) := by decide +kernel
theorem dX7_init_28 : decode cX7_init 28 = .ok (.iconst 4, 1) := by decide +kernel
theorem dX7_init_29 : decode cX7_init 29 = .ok (.iconst 0, 1) := by decide +kernel
theorem dX7_init_30 : decode cX7_init 30 = .ok (.iastore, 1) := by decide +kernel
theorem dX7_init_31 : decode cX7_init 31 = .ok (.dup, 1) := by decide +kernel
theorem dX7_init_32 : decode cX7_init 32 = .ok (.iconst 5, 1) := by decide +kernel
theorem dX7_init_33 : decode cX7_init 33 = .ok (.iconst 0, 1) := by decide +kernel
theorem dX7_init_34 : decode cX7_init 34 = .ok (.iastore, 1) := by decide +kernel
theorem dX7_init_35 : decode cX7_init 35 = .ok (.putfield 7, 3) := by decide +kernel
theorem dX7_init_38 : decode cX7_init 38 = .ok (.aload_n 0, 1) := by decide +kernel
theorem dX7_init_39 : decode cX7_init 39 = .ok (.new 13, 3) := by decide +kernel
theorem dX7_init_42 : decode cX7_init 42 = .ok (.dup, 1) := by decide +kernel
theorem dX7_init_43 : decode cX7_init 43 = .ok (.bipush 59, 2) := by decide +kernel
theorem dX7_init_45 : decode cX7_init 45 = .ok (.invokespecial 15, 3) := by decide +kernel
theorem dX7_init_48 : decode cX7_init 48 = .ok (.putfield 18, 3) := by decide +kernel
theorem dX7_init_51 : decode cX7_init 51 = .ok (.aload_n 0, 1) := by decide +kernel
theorem dX7_init_52 : decode cX7_init 52 = .ok (.new 13, 3) := by decide +kernel
theorem dX7_init_55 : decode cX7_init 55 = .ok (.dup, 1) := by decide +kernel
theorem dX7_init_56 : decode cX7_init 56 = .ok (.bipush 19, 2) := by decide +kernel
theorem dX7_init_58 : decode cX7_init 58 = .ok (.invokespecial 15, 3) := by decide +kernel
theorem dX7_init_61 : decode cX7_init 61 = .ok (.putfield 22, 3) := by decide +kernel
theorem dX7_init_64 : decode cX7_init 64 = .ok (.aload_n 0, 1) := by decide +kernel
theorem dX7_init_65 : decode cX7_init 65 = .ok (.new 25, 3) := by decide +kernel
theorem dX7_init_68 : decode cX7_init 68 = .ok (.dup, 1) := by decide +kernel
theorem dX7_init_69 : decode cX7_init 69 = .ok (.bipush 12, 2) := by decide +kernel
theorem dX7_init_71 : decode cX7_init 71 = .ok (.invokespecial 27, 3) := by decide +kernel
theorem dX7_init_74 : decode cX7_init 74 = .ok (.putfield 28, 3) := by decide +kernel
theorem dX7_init_77 : decode cX7_init 77 = .ok (.aload_n 0, 1) := by decide +kernel
theorem dX7_init_78 : decode cX7_init 78 = .ok (.new 25, 3) := by decide +kernel
theorem dX7_init_81 : decode cX7_init 81 = .ok (.dup, 1) := by decide +kernel
theorem dX7_init_82 : decode cX7_init 82 = .ok (.bipush 14, 2) := by decide +kernel
theorem dX7_init_84 : decode cX7_init 84 = .ok (.invokespecial 27, 3) := by decide +kernel
theorem dX7_init_87 : decode cX7_init 87 = .ok (.putfield 32, 3) := by decide +kernel
theorem dX7_init_90 : decode cX7_init 90 = .ok (.aload_n 0, 1) := by decide +kernel
theorem dX7_init_91 : decode cX7_init 91 = .ok (.new 35, 3) := by decide +kernel
theorem dX7_init_94 : decode cX7_init 94 = .ok (.dup, 1) := by decide +kernel
theorem dX7_init_95 : decode cX7_init 95 = .ok (.aload_n 0, 1) := by decide +kernel
theorem dX7_init_96 : decode cX7_init 96 = .ok (.getfield 32, 3) := by decide +kernel
theorem dX7_init_99 : decode cX7_init 99 = .ok (.aload_n 0, 1) := by decide +kernel
theorem dX7_init_100 : decode cX7_init 100 = .ok (.getfield 18, 3) := by decide +kernel
theorem dX7_init_103 : decode cX7_init 103 = .ok (.aload_n 0, 1) := by decide +kernel
theorem dX7_init_104 : decode cX7_init 104 = .ok (.getfield 22, 3) := by decide +kernel
theorem dX7_init_107 : decode cX7_init 107 = .ok (.aload_n 0, 1) := by decide +kernel
theorem dX7_init_108 : decode cX7_init 108 = .ok (.getfield 7, 3) := by decide +kernel
theorem dX7_init_111 : decode cX7_init 111 = .ok (.invokespecial 37, 3) := by decide +kernel
theorem dX7_init_114 : decode cX7_init 114 = .ok (.putfield 40, 3) := by decide +kernel
theorem dX7_init_117 : decode cX7_init 117 = .ok (.aload_n 0, 1) := by decide +kernel
theorem dX7_init_118 : decode cX7_init 118 = .ok (.new 44, 3) := by decide +kernel
theorem dX7_init_121 : decode cX7_init 121 = .ok (.dup, 1) := by decide +kernel
theorem dX7_init_122 : decode cX7_init 122 = .ok (.aload_n 0, 1) := by decide +kernel
theorem dX7_init_123 : decode cX7_init 123 = .ok (.getfield 32, 3) := by decide +kernel
theorem dX7_init_126 : decode cX7_init 126 = .ok (.aload_n 0, 1) := by decide +kernel
theorem dX7_init_127 : decode cX7_init 127 = .ok (.getfield 18, 3) := by decide +kernel
theorem dX7_init_130 : decode cX7_init 130 = .ok (.aload_n 0, 1) := by decide +kernel
theorem dX7_init_131 : decode cX7_init 131 = .ok (.getfield 7, 3) := by decide +kernel
theorem dX7_init_134 : decode cX7_init 134 = .ok (.invokespecial 46, 3) := by decide +kernel
theorem dX7_init_137 : decode cX7_init 137 = .ok (.putfield 49, 3) := by decide +kernel
theorem dX7_init_140 : decode cX7_init 140 = .ok (.aload_n 0, 1) := by decide +kernel
theorem dX7_init_141 : decode cX7_init 141 = .ok (.new 53, 3) := by decide +kernel
theorem dX7_init_144 : decode cX7_init 144 = .ok (.dup, 1) := by decide +kernel
theorem dX7_init_145 : decode cX7_init 145 = .ok (.invokespecial 55, 3) := by decide +kernel
theorem dX7_init_148 : decode cX7_init 148 = .ok (.putfield 56, 3) := by decide +kernel
theorem dX7_init_151 : decode cX7_init 151 = .ok (.aload_n 0, 1) := by decide +kernel
theorem dX7_init_152 : decode cX7_init 152 = .ok (.iconst 4, 1) := by decide +kernel
theorem dX7_init_153 : decode cX7_init 153 = .ok (.anewarray 60, 3) := by decide +kernel
theorem dX7_init_156 : decode cX7_init 156 = .ok (.putfield 62, 3) := by decide +kernel
theorem dX7_init_159 : decode cX7_init 159 = .ok (.iconst 0, 1) := by decide +kernel
theorem dX7_init_160 : decode cX7_init 160 = .ok (.istore_n 1, 1) := by decide +kernel
theorem dX7_init_161 : decode cX7_init 161 = .ok (.iload_n 1, 1) := by decide +kernel
theorem dX7_init_162 : decode cX7_init 162 = .ok (.iconst 4, 1) := by decide +kernel
theorem dX7_init_163 : decode cX7_init 163 = .ok (.if_icmp .ge 22, 3) := by decide +kernel
theorem dX7_init_166 : decode cX7_init 166 = .ok (.aload_n 0, 1) := by decide +kernel
theorem dX7_init_167 : decode cX7_init 167 = .ok (.getfield 62, 3) := by decide +kernel
theorem dX7_init_170 : decode cX7_init 170 = .ok (.iload_n 1, 1) := by decide +kernel
theorem dX7_init_171 : decode cX7_init 171 = .ok (.new 60, 3) := by decide +kernel
theorem dX7_init_174 : decode cX7_init 174 = .ok (.dup, 1) := by decide +kernel
theorem dX7_init_175 : decode cX7_init 175 = .ok (.invokespecial 66, 3) := by decide +kernel
theorem dX7_init_178 : decode cX7_init 178 = .ok (.aastore, 1) := by decide +kernel
theorem dX7_init_179 : decode cX7_init 179 = .ok (.iinc 1 1, 3) := by decide +kernel
theorem dX7_init_182 : decode cX7_init 182 = .ok (.goto (-21), 3) := by decide +kernel
theorem dX7_init_185 : decode cX7_init 185 = .ok (.return_, 1) := by decide +kernel
theorem dX7_type_0 : decode cX7_type 0 = .ok (.iload_n 1, 1) := by decide +kernel
theorem dX7_type_1 : decode cX7_type 1 = .ok (.invokestatic 67, 3) := by decide +kernel
theorem dX7_type_4 : decode cX7_type 4 = .ok (.ifCond .eq 14, 3) := by decide +kernel
theorem dX7_type_7 : decode cX7_type 7 = .ok (.iload_n 2, 1) := by decide +kernel
theorem dX7_type_8 : decode cX7_type 8 = .ok (.ifCond .lt 10, 3) := by decide +kernel
theorem dX7_type_11 : decode cX7_type 11 = .ok (.iload_n 2, 1) := by decide +kernel
theorem dX7_type_12 : decode cX7_type 12 = .ok (.sipush 255, 3) := by decide +kernel
theorem dX7_type_15 : decode cX7_type 15 = .ok (.if_icmp .le 6, 3) := by decide +kernel
theorem dX7_type_18 : decode cX7_type 18 = .ok (.bipush (-2), 2) := by decide +kernel
theorem dX7_type_20 : decode cX7_type 20 = .ok (.ireturn, 1) := by decide +kernel
theorem dX7_type_21 : decode cX7_type 21 = .ok (.aload_n 0, 1) := by decide +kernel
theorem dX7_type_22 : decode cX7_type 22 = .ok (.iload_n 1, 1) := by decide +kernel
theorem dX7_type_23 : decode cX7_type 23 = .ok (.invokevirtual 71, 3) := by decide +kernel
theorem dX7_type_26 : decode cX7_type 26 = .ok (.astore_n 3, 1) := by decide +kernel
theorem dX7_type_27 : decode cX7_type 27 = .ok (.aload_n 3, 1) := by decide +kernel
theorem dX7_type_28 : decode cX7_type 28 = .ok (.invokevirtual 75, 3) := by decide +kernel
theorem dX7_type_31 : decode cX7_type 31 = .ok (.ifCond .eq 6, 3) := by decide +kernel
theorem dX7_type_34 : decode cX7_type 34 = .ok (.bipush (-4), 2) := by decide +kernel
theorem dX7_type_36 : decode cX7_type 36 = .ok (.ireturn, 1) := by decide +kernel
theorem dX7_type_37 : decode cX7_type 37 = .ok (.aload_n 3, 1) := by decide +kernel
theorem dX7_type_38 : decode cX7_type 38 = .ok (.iload_n 2, 1) := by decide +kernel
theorem dX7_type_39 : decode cX7_type 39 = .ok (.invokevirtual 79, 3) := by decide +kernel
theorem dX7_type_42 : decode cX7_type 42 = .ok (.aload_n 0, 1) := by decide +kernel
theorem dX7_type_43 : decode cX7_type 43 = .ok (.invokevirtual 82, 3) := by decide +kernel
theorem dX7_type_46 : decode cX7_type 46 = .ok (.aload_n 3, 1) := by decide +kernel
theorem dX7_type_47 : decode cX7_type 47 = .ok (.getfield 85, 3) := by decide +kernel
theorem dX7_type_50 : decode cX7_type 50 = .ok (.ireturn, 1) := by decide +kernel
theorem dX7_wipe_0 : decode cX7_wipe 0 = .ok (.iload_n 1, 1) := by decide +kernel
theorem dX7_wipe_1 : decode cX7_wipe 1 = .ok (.invokestatic 67, 3) := by decide +kernel
theorem dX7_wipe_4 : decode cX7_wipe 4 = .ok (.ifCond .ne 6, 3) := by decide +kernel
theorem dX7_wipe_7 : decode cX7_wipe 7 = .ok (.bipush (-2), 2) := by decide +kernel
theorem dX7_wipe_9 : decode cX7_wipe 9 = .ok (.ireturn, 1) := by decide +kernel
theorem dX7_wipe_10 : decode cX7_wipe 10 = .ok (.aload_n 0, 1) := by decide +kernel
theorem dX7_wipe_11 : decode cX7_wipe 11 = .ok (.iload_n 1, 1) := by decide +kernel
theorem dX7_wipe_12 : decode cX7_wipe 12 = .ok (.invokevirtual 71, 3) := by decide +kernel
theorem dX7_wipe_15 : decode cX7_wipe 15 = .ok (.astore_n 2, 1) := by decide +kernel
theorem dX7_wipe_16 : decode cX7_wipe 16 = .ok (.aload_n 2, 1) := by decide +kernel
theorem dX7_wipe_17 : decode cX7_wipe 17 = .ok (.getfield 85, 3) := by decide +kernel
theorem dX7_wipe_20 : decode cX7_wipe 20 = .ok (.istore_n 3, 1) := by decide +kernel
theorem dX7_wipe_21 : decode cX7_wipe 21 = .ok (.aload_n 2, 1) := by decide +kernel
theorem dX7_wipe_22 : decode cX7_wipe 22 = .ok (.iconst 0, 1) := by decide +kernel
theorem dX7_wipe_23 : decode cX7_wipe 23 = .ok (.invokevirtual 89, 3) := by decide +kernel
theorem dX7_wipe_26 : decode cX7_wipe 26 = .ok (.aload_n 0, 1) := by decide +kernel
theorem dX7_wipe_27 : decode cX7_wipe 27 = .ok (.invokevirtual 82, 3) := by decide +kernel
theorem dX7_wipe_30 : decode cX7_wipe 30 = .ok (.iload_n 3, 1) := by decide +kernel
theorem dX7_wipe_31 : decode cX7_wipe 31 = .ok (.ireturn, 1) := by decide +kernel
theorem dX7_undo_0 : decode cX7_undo 0 = .ok (.iload_n 1, 1) := by decide +kernel
theorem dX7_undo_1 : decode cX7_undo 1 = .ok (.invokestatic 67, 3) := by decide +kernel
theorem dX7_undo_4 : decode cX7_undo 4 = .ok (.ifCond .ne 6, 3) := by decide +kernel
theorem dX7_undo_7 : decode cX7_undo 7 = .ok (.bipush (-2), 2) := by decide +kernel
theorem dX7_undo_9 : decode cX7_undo 9 = .ok (.ireturn, 1) := by decide +kernel
theorem dX7_undo_10 : decode cX7_undo 10 = .ok (.aload_n 0, 1) := by decide +kernel
theorem dX7_undo_11 : decode cX7_undo 11 = .ok (.iload_n 1, 1) := by decide +kernel
theorem dX7_undo_12 : decode cX7_undo 12 = .ok (.invokevirtual 71, 3) := by decide +kernel
theorem dX7_undo_15 : decode cX7_undo 15 = .ok (.astore_n 2, 1) := by decide +kernel
theorem dX7_undo_16 : decode cX7_undo 16 = .ok (.aload_n 2, 1) := by decide +kernel
theorem dX7_undo_17 : decode cX7_undo 17 = .ok (.getfield 92, 3) := by decide +kernel
theorem dX7_undo_20 : decode cX7_undo 20 = .ok (.ifCond .ne 6, 3) := by decide +kernel
theorem dX7_undo_23 : decode cX7_undo 23 = .ok (.bipush (-3), 2) := by decide +kernel
theorem dX7_undo_25 : decode cX7_undo 25 = .ok (.ireturn, 1) := by decide +kernel
theorem dX7_undo_26 : decode cX7_undo 26 = .ok (.aload_n 2, 1) := by decide +kernel
theorem dX7_undo_27 : decode cX7_undo 27 = .ok (.invokevirtual 95, 3) := by decide +kernel
theorem dX7_undo_30 : decode cX7_undo 30 = .ok (.aload_n 0, 1) := by decide +kernel
theorem dX7_undo_31 : decode cX7_undo 31 = .ok (.invokevirtual 82, 3) := by decide +kernel
theorem dX7_undo_34 : decode cX7_undo 34 = .ok (.aload_n 2, 1) := by decide +kernel
theorem dX7_undo_35 : decode cX7_undo 35 = .ok (.getfield 92, 3) := by decide +kernel
theorem dX7_undo_38 : decode cX7_undo 38 = .ok (.ireturn, 1) := by decide +kernel
theorem dX7_fault_0 : decode cX7_fault 0 = .ok (.iload_n 1, 1) := by decide +kernel
theorem dX7_fault_1 : decode cX7_fault 1 = .ok (.invokestatic 67, 3) := by decide +kernel
theorem dX7_fault_4 : decode cX7_fault 4 = .ok (.ifCond .eq 14, 3) := by decide +kernel
theorem dX7_fault_7 : decode cX7_fault 7 = .ok (.aload_n 0, 1) := by decide +kernel
theorem dX7_fault_8 : decode cX7_fault 8 = .ok (.iload_n 1, 1) := by decide +kernel
theorem dX7_fault_9 : decode cX7_fault 9 = .ok (.invokevirtual 71, 3) := by decide +kernel
theorem dX7_fault_12 : decode cX7_fault 12 = .ok (.getfield 98, 3) := by decide +kernel
theorem dX7_fault_15 : decode cX7_fault 15 = .ok (.goto 5, 3) := by decide +kernel
theorem dX7_fault_18 : decode cX7_fault 18 = .ok (.bipush (-2), 2) := by decide +kernel
theorem dX7_fault_20 : decode cX7_fault 20 = .ok (.ireturn, 1) := by decide +kernel
theorem dX7_set_0 : decode cX7_set 0 = .ok (.iload_n 1, 1) := by decide +kernel
theorem dX7_set_1 : decode cX7_set 1 = .ok (.ifCond .lt 9, 3) := by decide +kernel
theorem dX7_set_4 : decode cX7_set 4 = .ok (.iload_n 1, 1) := by decide +kernel
theorem dX7_set_5 : decode cX7_set 5 = .ok (.bipush 6, 2) := by decide +kernel
theorem dX7_set_7 : decode cX7_set 7 = .ok (.if_icmp .lt 6, 3) := by decide +kernel
theorem dX7_set_10 : decode cX7_set 10 = .ok (.bipush (-2), 2) := by decide +kernel
theorem dX7_set_12 : decode cX7_set 12 = .ok (.ireturn, 1) := by decide +kernel
theorem dX7_set_13 : decode cX7_set 13 = .ok (.iload_n 2, 1) := by decide +kernel
theorem dX7_set_14 : decode cX7_set 14 = .ok (.getstatic 101, 3) := by decide +kernel
theorem dX7_set_17 : decode cX7_set 17 = .ok (.iload_n 1, 1) := by decide +kernel
theorem dX7_set_18 : decode cX7_set 18 = .ok (.iaload, 1) := by decide +kernel
theorem dX7_set_19 : decode cX7_set 19 = .ok (.if_icmp .lt 12, 3) := by decide +kernel
theorem dX7_set_22 : decode cX7_set 22 = .ok (.iload_n 2, 1) := by decide +kernel
theorem dX7_set_23 : decode cX7_set 23 = .ok (.getstatic 104, 3) := by decide +kernel
theorem dX7_set_26 : decode cX7_set 26 = .ok (.iload_n 1, 1) := by decide +kernel
theorem dX7_set_27 : decode cX7_set 27 = .ok (.iaload, 1) := by decide +kernel
theorem dX7_set_28 : decode cX7_set 28 = .ok (.if_icmp .le 6, 3) := by decide +kernel
theorem dX7_set_31 : decode cX7_set 31 = .ok (.bipush (-2), 2) := by decide +kernel
theorem dX7_set_33 : decode cX7_set 33 = .ok (.ireturn, 1) := by decide +kernel
theorem dX7_set_34 : decode cX7_set 34 = .ok (.aload_n 0, 1) := by decide +kernel
theorem dX7_set_35 : decode cX7_set 35 = .ok (.getfield 7, 3) := by decide +kernel
theorem dX7_set_38 : decode cX7_set 38 = .ok (.iload_n 1, 1) := by decide +kernel
theorem dX7_set_39 : decode cX7_set 39 = .ok (.iaload, 1) := by decide +kernel
theorem dX7_set_40 : decode cX7_set 40 = .ok (.istore_n 3, 1) := by decide +kernel
theorem dX7_set_41 : decode cX7_set 41 = .ok (.aload_n 0, 1) := by decide +kernel
theorem dX7_set_42 : decode cX7_set 42 = .ok (.getfield 7, 3) := by decide +kernel
theorem dX7_set_45 : decode cX7_set 45 = .ok (.iload_n 1, 1) := by decide +kernel
theorem dX7_set_46 : decode cX7_set 46 = .ok (.iload_n 2, 1) := by decide +kernel
theorem dX7_set_47 : decode cX7_set 47 = .ok (.iastore, 1) := by decide +kernel
theorem dX7_set_48 : decode cX7_set 48 = .ok (.aload_n 0, 1) := by decide +kernel
theorem dX7_set_49 : decode cX7_set 49 = .ok (.invokevirtual 82, 3) := by decide +kernel
theorem dX7_set_52 : decode cX7_set 52 = .ok (.iload_n 3, 1) := by decide +kernel
theorem dX7_set_53 : decode cX7_set 53 = .ok (.ireturn, 1) := by decide +kernel
theorem dX7_verse_0 : decode cX7_verse 0 = .ok (.aload_n 0, 1) := by decide +kernel
theorem dX7_verse_1 : decode cX7_verse 1 = .ok (.iload_n 1, 1) := by decide +kernel
theorem dX7_verse_2 : decode cX7_verse 2 = .ok (.invokevirtual 107, 3) := by decide +kernel
theorem dX7_verse_5 : decode cX7_verse 5 = .ok (.ifCond .ne 6, 3) := by decide +kernel
theorem dX7_verse_8 : decode cX7_verse 8 = .ok (.bipush (-2), 2) := by decide +kernel
theorem dX7_verse_10 : decode cX7_verse 10 = .ok (.ireturn, 1) := by decide +kernel
theorem dX7_verse_11 : decode cX7_verse 11 = .ok (.aload_n 0, 1) := by decide +kernel
theorem dX7_verse_12 : decode cX7_verse 12 = .ok (.getfield 28, 3) := by decide +kernel
theorem dX7_verse_15 : decode cX7_verse 15 = .ok (.iload_n 1, 1) := by decide +kernel
theorem dX7_verse_16 : decode cX7_verse 16 = .ok (.invokevirtual 110, 3) := by decide +kernel
theorem dX7_verse_19 : decode cX7_verse 19 = .ok (.astore_n 3, 1) := by decide +kernel
theorem dX7_verse_20 : decode cX7_verse 20 = .ok (.iload_n 2, 1) := by decide +kernel
theorem dX7_verse_21 : decode cX7_verse 21 = .ok (.tableswitch 84 0 5 #[39, 49, 59, 69, 74, 79], 39) := by decide +kernel
theorem dX7_verse_60 : decode cX7_verse 60 = .ok (.aload_n 0, 1) := by decide +kernel
theorem dX7_verse_61 : decode cX7_verse 61 = .ok (.getfield 18, 3) := by decide +kernel
theorem dX7_verse_64 : decode cX7_verse 64 = .ok (.iload_n 1, 1) := by decide +kernel
theorem dX7_verse_65 : decode cX7_verse 65 = .ok (.iconst 0, 1) := by decide +kernel
theorem dX7_verse_66 : decode cX7_verse 66 = .ok (.invokevirtual 114, 3) := by decide +kernel
theorem dX7_verse_69 : decode cX7_verse 69 = .ok (.ireturn, 1) := by decide +kernel
theorem dX7_verse_70 : decode cX7_verse 70 = .ok (.aload_n 0, 1) := by decide +kernel
theorem dX7_verse_71 : decode cX7_verse 71 = .ok (.getfield 18, 3) := by decide +kernel
theorem dX7_verse_74 : decode cX7_verse 74 = .ok (.iload_n 1, 1) := by decide +kernel
theorem dX7_verse_75 : decode cX7_verse 75 = .ok (.iconst 1, 1) := by decide +kernel
theorem dX7_verse_76 : decode cX7_verse 76 = .ok (.invokevirtual 114, 3) := by decide +kernel
theorem dX7_verse_79 : decode cX7_verse 79 = .ok (.ireturn, 1) := by decide +kernel
theorem dX7_verse_80 : decode cX7_verse 80 = .ok (.aload_n 0, 1) := by decide +kernel
theorem dX7_verse_81 : decode cX7_verse 81 = .ok (.getfield 18, 3) := by decide +kernel
theorem dX7_verse_84 : decode cX7_verse 84 = .ok (.iload_n 1, 1) := by decide +kernel
theorem dX7_verse_85 : decode cX7_verse 85 = .ok (.iconst 2, 1) := by decide +kernel
theorem dX7_verse_86 : decode cX7_verse 86 = .ok (.invokevirtual 114, 3) := by decide +kernel
theorem dX7_verse_89 : decode cX7_verse 89 = .ok (.ireturn, 1) := by decide +kernel
theorem dX7_verse_90 : decode cX7_verse 90 = .ok (.aload_n 3, 1) := by decide +kernel
theorem dX7_verse_91 : decode cX7_verse 91 = .ok (.getfield 118, 3) := by decide +kernel
theorem dX7_verse_94 : decode cX7_verse 94 = .ok (.ireturn, 1) := by decide +kernel
theorem dX7_verse_95 : decode cX7_verse 95 = .ok (.aload_n 3, 1) := by decide +kernel
theorem dX7_verse_96 : decode cX7_verse 96 = .ok (.getfield 123, 3) := by decide +kernel
theorem dX7_verse_99 : decode cX7_verse 99 = .ok (.ireturn, 1) := by decide +kernel
theorem dX7_verse_100 : decode cX7_verse 100 = .ok (.aload_n 3, 1) := by decide +kernel
theorem dX7_verse_101 : decode cX7_verse 101 = .ok (.getfield 126, 3) := by decide +kernel
theorem dX7_verse_104 : decode cX7_verse 104 = .ok (.ireturn, 1) := by decide +kernel
theorem dX7_verse_105 : decode cX7_verse 105 = .ok (.bipush (-2), 2) := by decide +kernel
theorem dX7_verse_107 : decode cX7_verse 107 = .ok (.ireturn, 1) := by decide +kernel
theorem dX7_when_0 : decode cX7_when 0 = .ok (.aload_n 0, 1) := by decide +kernel
theorem dX7_when_1 : decode cX7_when 1 = .ok (.iload_n 1, 1) := by decide +kernel
theorem dX7_when_2 : decode cX7_when 2 = .ok (.invokevirtual 107, 3) := by decide +kernel
theorem dX7_when_5 : decode cX7_when 5 = .ok (.ifCond .ne 6, 3) := by decide +kernel
theorem dX7_when_8 : decode cX7_when 8 = .ok (.bipush (-2), 2) := by decide +kernel
theorem dX7_when_10 : decode cX7_when 10 = .ok (.ireturn, 1) := by decide +kernel
theorem dX7_when_11 : decode cX7_when 11 = .ok (.aload_n 0, 1) := by decide +kernel
theorem dX7_when_12 : decode cX7_when 12 = .ok (.getfield 28, 3) := by decide +kernel
theorem dX7_when_15 : decode cX7_when 15 = .ok (.iload_n 1, 1) := by decide +kernel
theorem dX7_when_16 : decode cX7_when 16 = .ok (.invokevirtual 110, 3) := by decide +kernel
theorem dX7_when_19 : decode cX7_when 19 = .ok (.astore_n 3, 1) := by decide +kernel
theorem dX7_when_20 : decode cX7_when 20 = .ok (.iload_n 2, 1) := by decide +kernel
theorem dX7_when_21 : decode cX7_when 21 = .ok (.tableswitch 60 0 4 #[35, 40, 45, 50, 55], 35) := by decide +kernel
theorem dX7_when_56 : decode cX7_when 56 = .ok (.aload_n 3, 1) := by decide +kernel
theorem dX7_when_57 : decode cX7_when 57 = .ok (.getfield 129, 3) := by decide +kernel
theorem dX7_when_60 : decode cX7_when 60 = .ok (.ireturn, 1) := by decide +kernel
theorem dX7_when_61 : decode cX7_when 61 = .ok (.aload_n 3, 1) := by decide +kernel
theorem dX7_when_62 : decode cX7_when 62 = .ok (.getfield 132, 3) := by decide +kernel
theorem dX7_when_65 : decode cX7_when 65 = .ok (.ireturn, 1) := by decide +kernel
theorem dX7_when_66 : decode cX7_when 66 = .ok (.aload_n 3, 1) := by decide +kernel
theorem dX7_when_67 : decode cX7_when 67 = .ok (.getfield 135, 3) := by decide +kernel
theorem dX7_when_70 : decode cX7_when 70 = .ok (.ireturn, 1) := by decide +kernel
theorem dX7_when_71 : decode cX7_when 71 = .ok (.aload_n 3, 1) := by decide +kernel
theorem dX7_when_72 : decode cX7_when 72 = .ok (.getfield 138, 3) := by decide +kernel
theorem dX7_when_75 : decode cX7_when 75 = .ok (.ireturn, 1) := by decide +kernel
theorem dX7_when_76 : decode cX7_when 76 = .ok (.aload_n 3, 1) := by decide +kernel
theorem dX7_when_77 : decode cX7_when 77 = .ok (.getfield 141, 3) := by decide +kernel
theorem dX7_when_80 : decode cX7_when 80 = .ok (.ireturn, 1) := by decide +kernel
theorem dX7_when_81 : decode cX7_when 81 = .ok (.bipush (-2), 2) := by decide +kernel
theorem dX7_when_83 : decode cX7_when 83 = .ok (.ireturn, 1) := by decide +kernel
theorem dX7_poem_0 : decode cX7_poem 0 = .ok (.iload_n 1, 1) := by decide +kernel
theorem dX7_poem_1 : decode cX7_poem 1 = .ok (.tableswitch 69 0 3 #[31, 39, 47, 58], 31) := by decide +kernel
theorem dX7_poem_32 : decode cX7_poem 32 = .ok (.aload_n 0, 1) := by decide +kernel
theorem dX7_poem_33 : decode cX7_poem 33 = .ok (.getfield 28, 3) := by decide +kernel
theorem dX7_poem_36 : decode cX7_poem 36 = .ok (.invokevirtual 144, 3) := by decide +kernel
theorem dX7_poem_39 : decode cX7_poem 39 = .ok (.ireturn, 1) := by decide +kernel
theorem dX7_poem_40 : decode cX7_poem 40 = .ok (.aload_n 0, 1) := by decide +kernel
theorem dX7_poem_41 : decode cX7_poem 41 = .ok (.getfield 28, 3) := by decide +kernel
theorem dX7_poem_44 : decode cX7_poem 44 = .ok (.invokevirtual 148, 3) := by decide +kernel
theorem dX7_poem_47 : decode cX7_poem 47 = .ok (.ireturn, 1) := by decide +kernel
theorem dX7_poem_48 : decode cX7_poem 48 = .ok (.aload_n 0, 1) := by decide +kernel
theorem dX7_poem_49 : decode cX7_poem 49 = .ok (.getfield 28, 3) := by decide +kernel
theorem dX7_poem_52 : decode cX7_poem 52 = .ok (.invokevirtual 151, 3) := by decide +kernel
theorem dX7_poem_55 : decode cX7_poem 55 = .ok (.getfield 155, 3) := by decide +kernel
theorem dX7_poem_58 : decode cX7_poem 58 = .ok (.ireturn, 1) := by decide +kernel
theorem dX7_poem_59 : decode cX7_poem 59 = .ok (.aload_n 0, 1) := by decide +kernel
theorem dX7_poem_60 : decode cX7_poem 60 = .ok (.getfield 28, 3) := by decide +kernel
theorem dX7_poem_63 : decode cX7_poem 63 = .ok (.invokevirtual 151, 3) := by decide +kernel
theorem dX7_poem_66 : decode cX7_poem 66 = .ok (.getfield 158, 3) := by decide +kernel
theorem dX7_poem_69 : decode cX7_poem 69 = .ok (.ireturn, 1) := by decide +kernel
theorem dX7_poem_70 : decode cX7_poem 70 = .ok (.bipush (-2), 2) := by decide +kernel
theorem dX7_poem_72 : decode cX7_poem 72 = .ok (.ireturn, 1) := by decide +kernel
theorem dX7_judged_0 : decode cX7_judged 0 = .ok (.iconst 0, 1) := by decide +kernel
theorem dX7_judged_1 : decode cX7_judged 1 = .ok (.istore_n 1, 1) := by decide +kernel
theorem dX7_judged_2 : decode cX7_judged 2 = .ok (.iload_n 1, 1) := by decide +kernel
theorem dX7_judged_3 : decode cX7_judged 3 = .ok (.aload_n 0, 1) := by decide +kernel
theorem dX7_judged_4 : decode cX7_judged 4 = .ok (.getfield 18, 3) := by decide +kernel
theorem dX7_judged_7 : decode cX7_judged 7 = .ok (.getfield 92, 3) := by decide +kernel
theorem dX7_judged_10 : decode cX7_judged 10 = .ok (.if_icmp .ge 35, 3) := by decide +kernel
theorem dX7_judged_13 : decode cX7_judged 13 = .ok (.aload_n 0, 1) := by decide +kernel
theorem dX7_judged_14 : decode cX7_judged 14 = .ok (.getfield 28, 3) := by decide +kernel
theorem dX7_judged_17 : decode cX7_judged 17 = .ok (.iload_n 1, 1) := by decide +kernel
theorem dX7_judged_18 : decode cX7_judged 18 = .ok (.invokevirtual 110, 3) := by decide +kernel
theorem dX7_judged_21 : decode cX7_judged 21 = .ok (.astore_n 2, 1) := by decide +kernel
theorem dX7_judged_22 : decode cX7_judged 22 = .ok (.aload_n 2, 1) := by decide +kernel
theorem dX7_judged_23 : decode cX7_judged 23 = .ok (.getfield 138, 3) := by decide +kernel
theorem dX7_judged_26 : decode cX7_judged 26 = .ok (.iconst (-1), 1) := by decide +kernel
theorem dX7_judged_27 : decode cX7_judged 27 = .ok (.if_icmp .eq 10, 3) := by decide +kernel
theorem dX7_judged_30 : decode cX7_judged 30 = .ok (.aload_n 2, 1) := by decide +kernel
theorem dX7_judged_31 : decode cX7_judged 31 = .ok (.getfield 141, 3) := by decide +kernel
theorem dX7_judged_34 : decode cX7_judged 34 = .ok (.ifCond .le 5, 3) := by decide +kernel
theorem dX7_judged_37 : decode cX7_judged 37 = .ok (.iload_n 1, 1) := by decide +kernel
theorem dX7_judged_38 : decode cX7_judged 38 = .ok (.ireturn, 1) := by decide +kernel
theorem dX7_judged_39 : decode cX7_judged 39 = .ok (.iinc 1 1, 3) := by decide +kernel
theorem dX7_judged_42 : decode cX7_judged 42 = .ok (.goto (-40), 3) := by decide +kernel
theorem dX7_judged_45 : decode cX7_judged 45 = .ok (.iconst (-1), 1) := by decide +kernel
theorem dX7_judged_46 : decode cX7_judged 46 = .ok (.ireturn, 1) := by decide +kernel
theorem dX7_rest_0 : decode cX7_rest 0 = .ok (.aload_n 0, 1) := by decide +kernel
theorem dX7_rest_1 : decode cX7_rest 1 = .ok (.iload_n 1, 1) := by decide +kernel
theorem dX7_rest_2 : decode cX7_rest 2 = .ok (.invokevirtual 107, 3) := by decide +kernel
theorem dX7_rest_5 : decode cX7_rest 5 = .ok (.ifCond .ne 6, 3) := by decide +kernel
theorem dX7_rest_8 : decode cX7_rest 8 = .ok (.bipush (-2), 2) := by decide +kernel
theorem dX7_rest_10 : decode cX7_rest 10 = .ok (.ireturn, 1) := by decide +kernel
theorem dX7_rest_11 : decode cX7_rest 11 = .ok (.aload_n 0, 1) := by decide +kernel
theorem dX7_rest_12 : decode cX7_rest 12 = .ok (.getfield 28, 3) := by decide +kernel
theorem dX7_rest_15 : decode cX7_rest 15 = .ok (.iload_n 1, 1) := by decide +kernel
theorem dX7_rest_16 : decode cX7_rest 16 = .ok (.invokevirtual 110, 3) := by decide +kernel
theorem dX7_rest_19 : decode cX7_rest 19 = .ok (.astore_n 2, 1) := by decide +kernel
theorem dX7_rest_20 : decode cX7_rest 20 = .ok (.aload_n 2, 1) := by decide +kernel
theorem dX7_rest_21 : decode cX7_rest 21 = .ok (.getfield 129, 3) := by decide +kernel
theorem dX7_rest_24 : decode cX7_rest 24 = .ok (.iconst (-1), 1) := by decide +kernel
theorem dX7_rest_25 : decode cX7_rest 25 = .ok (.if_icmp .ne 8, 3) := by decide +kernel
theorem dX7_rest_28 : decode cX7_rest 28 = .ok (.bipush (-3), 2) := by decide +kernel
theorem dX7_rest_30 : decode cX7_rest 30 = .ok (.goto 7, 3) := by decide +kernel
theorem dX7_rest_33 : decode cX7_rest 33 = .ok (.aload_n 2, 1) := by decide +kernel
theorem dX7_rest_34 : decode cX7_rest 34 = .ok (.getfield 161, 3) := by decide +kernel
theorem dX7_rest_37 : decode cX7_rest 37 = .ok (.ireturn, 1) := by decide +kernel
theorem dX7_doing_0 : decode cX7_doing 0 = .ok (.iload_n 1, 1) := by decide +kernel
theorem dX7_doing_1 : decode cX7_doing 1 = .ok (.ifCond .lt 10, 3) := by decide +kernel
theorem dX7_doing_4 : decode cX7_doing 4 = .ok (.iload_n 1, 1) := by decide +kernel
theorem dX7_doing_5 : decode cX7_doing 5 = .ok (.sipush 299, 3) := by decide +kernel
theorem dX7_doing_8 : decode cX7_doing 8 = .ok (.if_icmp .le 6, 3) := by decide +kernel
theorem dX7_doing_11 : decode cX7_doing 11 = .ok (.bipush (-2), 2) := by decide +kernel
theorem dX7_doing_13 : decode cX7_doing 13 = .ok (.ireturn, 1) := by decide +kernel
theorem dX7_doing_14 : decode cX7_doing 14 = .ok (.iload_n 2, 1) := by decide +kernel
theorem dX7_doing_15 : decode cX7_doing 15 = .ok (.tableswitch 52 0 2 #[25, 34, 43], 25) := by decide +kernel
theorem dX7_doing_40 : decode cX7_doing 40 = .ok (.aload_n 0, 1) := by decide +kernel
theorem dX7_doing_41 : decode cX7_doing 41 = .ok (.getfield 28, 3) := by decide +kernel
theorem dX7_doing_44 : decode cX7_doing 44 = .ok (.iload_n 1, 1) := by decide +kernel
theorem dX7_doing_45 : decode cX7_doing 45 = .ok (.invokevirtual 164, 3) := by decide +kernel
theorem dX7_doing_48 : decode cX7_doing 48 = .ok (.ireturn, 1) := by decide +kernel
theorem dX7_doing_49 : decode cX7_doing 49 = .ok (.aload_n 0, 1) := by decide +kernel
theorem dX7_doing_50 : decode cX7_doing 50 = .ok (.getfield 28, 3) := by decide +kernel
theorem dX7_doing_53 : decode cX7_doing 53 = .ok (.iload_n 1, 1) := by decide +kernel
theorem dX7_doing_54 : decode cX7_doing 54 = .ok (.invokevirtual 168, 3) := by decide +kernel
theorem dX7_doing_57 : decode cX7_doing 57 = .ok (.ireturn, 1) := by decide +kernel
theorem dX7_doing_58 : decode cX7_doing 58 = .ok (.aload_n 0, 1) := by decide +kernel
theorem dX7_doing_59 : decode cX7_doing 59 = .ok (.getfield 28, 3) := by decide +kernel
theorem dX7_doing_62 : decode cX7_doing 62 = .ok (.iload_n 1, 1) := by decide +kernel
theorem dX7_doing_63 : decode cX7_doing 63 = .ok (.invokevirtual 171, 3) := by decide +kernel
theorem dX7_doing_66 : decode cX7_doing 66 = .ok (.ireturn, 1) := by decide +kernel
theorem dX7_doing_67 : decode cX7_doing 67 = .ok (.bipush (-2), 2) := by decide +kernel
theorem dX7_doing_69 : decode cX7_doing 69 = .ok (.ireturn, 1) := by decide +kernel
theorem dX7_put_0 : decode cX7_put 0 = .ok (.iload_n 1, 1) := by decide +kernel
theorem dX7_put_1 : decode cX7_put 1 = .ok (.ifCond .lt 9, 3) := by decide +kernel
theorem dX7_put_4 : decode cX7_put 4 = .ok (.iload_n 1, 1) := by decide +kernel
theorem dX7_put_5 : decode cX7_put 5 = .ok (.bipush 6, 2) := by decide +kernel
theorem dX7_put_7 : decode cX7_put 7 = .ok (.if_icmp .lt 6, 3) := by decide +kernel
theorem dX7_put_10 : decode cX7_put 10 = .ok (.bipush (-2), 2) := by decide +kernel
theorem dX7_put_12 : decode cX7_put 12 = .ok (.ireturn, 1) := by decide +kernel
theorem dX7_put_13 : decode cX7_put 13 = .ok (.aload_n 0, 1) := by decide +kernel
theorem dX7_put_14 : decode cX7_put 14 = .ok (.getfield 174, 3) := by decide +kernel
theorem dX7_put_17 : decode cX7_put 17 = .ok (.ifCond .ne 15, 3) := by decide +kernel
theorem dX7_put_20 : decode cX7_put 20 = .ok (.aload_n 0, 1) := by decide +kernel
theorem dX7_put_21 : decode cX7_put 21 = .ok (.getfield 40, 3) := by decide +kernel
theorem dX7_put_24 : decode cX7_put 24 = .ok (.invokevirtual 178, 3) := by decide +kernel
theorem dX7_put_27 : decode cX7_put 27 = .ok (.aload_n 0, 1) := by decide +kernel
theorem dX7_put_28 : decode cX7_put 28 = .ok (.iconst 1, 1) := by decide +kernel
theorem dX7_put_29 : decode cX7_put 29 = .ok (.putfield 174, 3) := by decide +kernel
theorem dX7_put_32 : decode cX7_put 32 = .ok (.aload_n 0, 1) := by decide +kernel
theorem dX7_put_33 : decode cX7_put 33 = .ok (.getfield 40, 3) := by decide +kernel
theorem dX7_put_36 : decode cX7_put 36 = .ok (.getfield 181, 3) := by decide +kernel
theorem dX7_put_39 : decode cX7_put 39 = .ok (.iload_n 1, 1) := by decide +kernel
theorem dX7_put_40 : decode cX7_put 40 = .ok (.iaload, 1) := by decide +kernel
theorem dX7_put_41 : decode cX7_put 41 = .ok (.ireturn, 1) := by decide +kernel
theorem dX7_order_0 : decode cX7_order 0 = .ok (.iload_n 1, 1) := by decide +kernel
theorem dX7_order_1 : decode cX7_order 1 = .ok (.bipush (-2), 2) := by decide +kernel
theorem dX7_order_3 : decode cX7_order 3 = .ok (.if_icmp .lt 9, 3) := by decide +kernel
theorem dX7_order_6 : decode cX7_order 6 = .ok (.iload_n 1, 1) := by decide +kernel
theorem dX7_order_7 : decode cX7_order 7 = .ok (.bipush 7, 2) := by decide +kernel
theorem dX7_order_9 : decode cX7_order 9 = .ok (.if_icmp .lt 6, 3) := by decide +kernel
theorem dX7_order_12 : decode cX7_order 12 = .ok (.bipush (-2), 2) := by decide +kernel
theorem dX7_order_14 : decode cX7_order 14 = .ok (.ireturn, 1) := by decide +kernel
theorem dX7_order_15 : decode cX7_order 15 = .ok (.aload_n 0, 1) := by decide +kernel
theorem dX7_order_16 : decode cX7_order 16 = .ok (.getfield 184, 3) := by decide +kernel
theorem dX7_order_19 : decode cX7_order 19 = .ok (.ifCond .ne 15, 3) := by decide +kernel
theorem dX7_order_22 : decode cX7_order 22 = .ok (.aload_n 0, 1) := by decide +kernel
theorem dX7_order_23 : decode cX7_order 23 = .ok (.getfield 49, 3) := by decide +kernel
theorem dX7_order_26 : decode cX7_order 26 = .ok (.invokevirtual 187, 3) := by decide +kernel
theorem dX7_order_29 : decode cX7_order 29 = .ok (.aload_n 0, 1) := by decide +kernel
theorem dX7_order_30 : decode cX7_order 30 = .ok (.iconst 1, 1) := by decide +kernel
theorem dX7_order_31 : decode cX7_order 31 = .ok (.putfield 184, 3) := by decide +kernel
theorem dX7_order_34 : decode cX7_order 34 = .ok (.iload_n 1, 1) := by decide +kernel
theorem dX7_order_35 : decode cX7_order 35 = .ok (.bipush (-2), 2) := by decide +kernel
theorem dX7_order_37 : decode cX7_order 37 = .ok (.if_icmp .ne 11, 3) := by decide +kernel
theorem dX7_order_40 : decode cX7_order 40 = .ok (.aload_n 0, 1) := by decide +kernel
theorem dX7_order_41 : decode cX7_order 41 = .ok (.getfield 49, 3) := by decide +kernel
theorem dX7_order_44 : decode cX7_order 44 = .ok (.getfield 188, 3) := by decide +kernel
theorem dX7_order_47 : decode cX7_order 47 = .ok (.ireturn, 1) := by decide +kernel
theorem dX7_order_48 : decode cX7_order 48 = .ok (.iload_n 1, 1) := by decide +kernel
theorem dX7_order_49 : decode cX7_order 49 = .ok (.iconst (-1), 1) := by decide +kernel
theorem dX7_order_50 : decode cX7_order 50 = .ok (.if_icmp .ne 13, 3) := by decide +kernel
theorem dX7_order_53 : decode cX7_order 53 = .ok (.aload_n 0, 1) := by decide +kernel
theorem dX7_order_54 : decode cX7_order 54 = .ok (.getfield 49, 3) := by decide +kernel
theorem dX7_order_57 : decode cX7_order 57 = .ok (.getfield 191, 3) := by decide +kernel
theorem dX7_order_60 : decode cX7_order 60 = .ok (.goto 12, 3) := by decide +kernel
theorem dX7_order_63 : decode cX7_order 63 = .ok (.aload_n 0, 1) := by decide +kernel
theorem dX7_order_64 : decode cX7_order 64 = .ok (.getfield 49, 3) := by decide +kernel
theorem dX7_order_67 : decode cX7_order 67 = .ok (.getfield 194, 3) := by decide +kernel
theorem dX7_order_70 : decode cX7_order 70 = .ok (.iload_n 1, 1) := by decide +kernel
theorem dX7_order_71 : decode cX7_order 71 = .ok (.iaload, 1) := by decide +kernel
theorem dX7_order_72 : decode cX7_order 72 = .ok (.ireturn, 1) := by decide +kernel
theorem dX7_lead_0 : decode cX7_lead 0 = .ok (.iconst 0, 1) := by decide +kernel
theorem dX7_lead_1 : decode cX7_lead 1 = .ok (.istore_n 1, 1) := by decide +kernel
theorem dX7_lead_2 : decode cX7_lead 2 = .ok (.iload_n 1, 1) := by decide +kernel
theorem dX7_lead_3 : decode cX7_lead 3 = .ok (.bipush 99, 2) := by decide +kernel
theorem dX7_lead_5 : decode cX7_lead 5 = .ok (.if_icmp .gt 51, 3) := by decide +kernel
theorem dX7_lead_8 : decode cX7_lead 8 = .ok (.aload_n 0, 1) := by decide +kernel
theorem dX7_lead_9 : decode cX7_lead 9 = .ok (.getfield 32, 3) := by decide +kernel
theorem dX7_lead_12 : decode cX7_lead 12 = .ok (.aload_n 0, 1) := by decide +kernel
theorem dX7_lead_13 : decode cX7_lead 13 = .ok (.getfield 7, 3) := by decide +kernel
theorem dX7_lead_16 : decode cX7_lead 16 = .ok (.invokevirtual 195, 3) := by decide +kernel
theorem dX7_lead_19 : decode cX7_lead 19 = .ok (.aload_n 0, 1) := by decide +kernel
theorem dX7_lead_20 : decode cX7_lead 20 = .ok (.getfield 32, 3) := by decide +kernel
theorem dX7_lead_23 : decode cX7_lead 23 = .ok (.iload_n 1, 1) := by decide +kernel
theorem dX7_lead_24 : decode cX7_lead 24 = .ok (.invokevirtual 199, 3) := by decide +kernel
theorem dX7_lead_27 : decode cX7_lead 27 = .ok (.aload_n 0, 1) := by decide +kernel
theorem dX7_lead_28 : decode cX7_lead 28 = .ok (.getfield 32, 3) := by decide +kernel
theorem dX7_lead_31 : decode cX7_lead 31 = .ok (.aload_n 0, 1) := by decide +kernel
theorem dX7_lead_32 : decode cX7_lead 32 = .ok (.getfield 18, 3) := by decide +kernel
theorem dX7_lead_35 : decode cX7_lead 35 = .ok (.invokevirtual 202, 3) := by decide +kernel
theorem dX7_lead_38 : decode cX7_lead 38 = .ok (.aload_n 0, 1) := by decide +kernel
theorem dX7_lead_39 : decode cX7_lead 39 = .ok (.getfield 32, 3) := by decide +kernel
theorem dX7_lead_42 : decode cX7_lead 42 = .ok (.invokevirtual 206, 3) := by decide +kernel
theorem dX7_lead_45 : decode cX7_lead 45 = .ok (.ifCond .eq 5, 3) := by decide +kernel
theorem dX7_lead_48 : decode cX7_lead 48 = .ok (.iload_n 1, 1) := by decide +kernel
theorem dX7_lead_49 : decode cX7_lead 49 = .ok (.ireturn, 1) := by decide +kernel
theorem dX7_lead_50 : decode cX7_lead 50 = .ok (.iinc 1 1, 3) := by decide +kernel
theorem dX7_lead_53 : decode cX7_lead 53 = .ok (.goto (-51), 3) := by decide +kernel
theorem dX7_lead_56 : decode cX7_lead 56 = .ok (.iconst (-1), 1) := by decide +kernel
theorem dX7_lead_57 : decode cX7_lead 57 = .ok (.ireturn, 1) := by decide +kernel
theorem dX7_odds_0 : decode cX7_odds 0 = .ok (.iload_n 1, 1) := by decide +kernel
theorem dX7_odds_1 : decode cX7_odds 1 = .ok (.ifCond .lt 8, 3) := by decide +kernel
theorem dX7_odds_4 : decode cX7_odds 4 = .ok (.iload_n 1, 1) := by decide +kernel
theorem dX7_odds_5 : decode cX7_odds 5 = .ok (.iconst 3, 1) := by decide +kernel
theorem dX7_odds_6 : decode cX7_odds 6 = .ok (.if_icmp .le 7, 3) := by decide +kernel
theorem dX7_odds_9 : decode cX7_odds 9 = .ok (.ldc2_w 209, 3) := by decide +kernel
theorem dX7_odds_12 : decode cX7_odds 12 = .ok (.lreturn, 1) := by decide +kernel
theorem dX7_odds_13 : decode cX7_odds 13 = .ok (.lconst 1, 1) := by decide +kernel
theorem dX7_odds_14 : decode cX7_odds 14 = .ok (.lstore_n 2, 1) := by decide +kernel
theorem dX7_odds_15 : decode cX7_odds 15 = .ok (.lconst 0, 1) := by decide +kernel
theorem dX7_odds_16 : decode cX7_odds 16 = .ok (.lstore 4, 2) := by decide +kernel
theorem dX7_odds_18 : decode cX7_odds 18 = .ok (.lconst 1, 1) := by decide +kernel
theorem dX7_odds_19 : decode cX7_odds 19 = .ok (.lstore 6, 2) := by decide +kernel
theorem dX7_odds_21 : decode cX7_odds 21 = .ok (.iconst 0, 1) := by decide +kernel
theorem dX7_odds_22 : decode cX7_odds 22 = .ok (.istore 8, 2) := by decide +kernel
theorem dX7_odds_24 : decode cX7_odds 24 = .ok (.iload 8, 2) := by decide +kernel
theorem dX7_odds_26 : decode cX7_odds 26 = .ok (.aload_n 0, 1) := by decide +kernel
theorem dX7_odds_27 : decode cX7_odds 27 = .ok (.getfield 18, 3) := by decide +kernel
theorem dX7_odds_30 : decode cX7_odds 30 = .ok (.getfield 92, 3) := by decide +kernel
theorem dX7_odds_33 : decode cX7_odds 33 = .ok (.if_icmp .ge 40, 3) := by decide +kernel
theorem dX7_odds_36 : decode cX7_odds 36 = .ok (.lload_n 2, 1) := by decide +kernel
theorem dX7_odds_37 : decode cX7_odds 37 = .ok (.bipush 16, 2) := by decide +kernel
theorem dX7_odds_39 : decode cX7_odds 39 = .ok (.aload_n 0, 1) := by decide +kernel
theorem dX7_odds_40 : decode cX7_odds 40 = .ok (.iload 8, 2) := by decide +kernel
theorem dX7_odds_42 : decode cX7_odds 42 = .ok (.invokevirtual 211, 3) := by decide +kernel
theorem dX7_odds_45 : decode cX7_odds 45 = .ok (.isub, 1) := by decide +kernel
theorem dX7_odds_46 : decode cX7_odds 46 = .ok (.i2l, 1) := by decide +kernel
theorem dX7_odds_47 : decode cX7_odds 47 = .ok (.lmul, 1) := by decide +kernel
theorem dX7_odds_48 : decode cX7_odds 48 = .ok (.lstore_n 2, 1) := by decide +kernel
theorem dX7_odds_49 : decode cX7_odds 49 = .ok (.lload 6, 2) := by decide +kernel
theorem dX7_odds_51 : decode cX7_odds 51 = .ok (.ldc2_w 214, 3) := by decide +kernel
theorem dX7_odds_54 : decode cX7_odds 54 = .ok (.lmul, 1) := by decide +kernel
theorem dX7_odds_55 : decode cX7_odds 55 = .ok (.lstore 6, 2) := by decide +kernel
theorem dX7_odds_57 : decode cX7_odds 57 = .ok (.lload 4, 2) := by decide +kernel
theorem dX7_odds_59 : decode cX7_odds 59 = .ok (.ldc2_w 214, 3) := by decide +kernel
theorem dX7_odds_62 : decode cX7_odds 62 = .ok (.lmul, 1) := by decide +kernel
theorem dX7_odds_63 : decode cX7_odds 63 = .ok (.lload_n 2, 1) := by decide +kernel
theorem dX7_odds_64 : decode cX7_odds 64 = .ok (.ladd, 1) := by decide +kernel
theorem dX7_odds_65 : decode cX7_odds 65 = .ok (.lstore 4, 2) := by decide +kernel
theorem dX7_odds_67 : decode cX7_odds 67 = .ok (.iinc 8 1, 3) := by decide +kernel
theorem dX7_odds_70 : decode cX7_odds 70 = .ok (.goto (-46), 3) := by decide +kernel
theorem dX7_odds_73 : decode cX7_odds 73 = .ok (.iload_n 1, 1) := by decide +kernel
theorem dX7_odds_74 : decode cX7_odds 74 = .ok (.iconst 2, 1) := by decide +kernel
theorem dX7_odds_75 : decode cX7_odds 75 = .ok (.if_icmp .ge 7, 3) := by decide +kernel
theorem dX7_odds_78 : decode cX7_odds 78 = .ok (.lload_n 2, 1) := by decide +kernel
theorem dX7_odds_79 : decode cX7_odds 79 = .ok (.goto 5, 3) := by decide +kernel
theorem dX7_odds_82 : decode cX7_odds 82 = .ok (.lload 4, 2) := by decide +kernel
theorem dX7_odds_84 : decode cX7_odds 84 = .ok (.lstore 8, 2) := by decide +kernel
theorem dX7_odds_86 : decode cX7_odds 86 = .ok (.iconst 0, 1) := by decide +kernel
theorem dX7_odds_87 : decode cX7_odds 87 = .ok (.istore 10, 2) := by decide +kernel
theorem dX7_odds_89 : decode cX7_odds 89 = .ok (.iload 10, 2) := by decide +kernel
theorem dX7_odds_91 : decode cX7_odds 91 = .ok (.bipush 64, 2) := by decide +kernel
theorem dX7_odds_93 : decode cX7_odds 93 = .ok (.if_icmp .ge 47, 3) := by decide +kernel
theorem dX7_odds_96 : decode cX7_odds 96 = .ok (.lload 8, 2) := by decide +kernel
theorem dX7_odds_98 : decode cX7_odds 98 = .ok (.ldc2_w 216, 3) := by decide +kernel
theorem dX7_odds_101 : decode cX7_odds 101 = .ok (.lrem, 1) := by decide +kernel
theorem dX7_odds_102 : decode cX7_odds 102 = .ok (.lconst 0, 1) := by decide +kernel
theorem dX7_odds_103 : decode cX7_odds 103 = .ok (.lcmp, 1) := by decide +kernel
theorem dX7_odds_104 : decode cX7_odds 104 = .ok (.ifCond .ne 36, 3) := by decide +kernel
theorem dX7_odds_107 : decode cX7_odds 107 = .ok (.lload 6, 2) := by decide +kernel
theorem dX7_odds_109 : decode cX7_odds 109 = .ok (.ldc2_w 216, 3) := by decide +kernel
theorem dX7_odds_112 : decode cX7_odds 112 = .ok (.lrem, 1) := by decide +kernel
theorem dX7_odds_113 : decode cX7_odds 113 = .ok (.lconst 0, 1) := by decide +kernel
theorem dX7_odds_114 : decode cX7_odds 114 = .ok (.lcmp, 1) := by decide +kernel
theorem dX7_odds_115 : decode cX7_odds 115 = .ok (.ifCond .ne 25, 3) := by decide +kernel
theorem dX7_odds_118 : decode cX7_odds 118 = .ok (.lload 8, 2) := by decide +kernel
theorem dX7_odds_120 : decode cX7_odds 120 = .ok (.ldc2_w 216, 3) := by decide +kernel
theorem dX7_odds_123 : decode cX7_odds 123 = .ok (.ldiv, 1) := by decide +kernel
theorem dX7_odds_124 : decode cX7_odds 124 = .ok (.lstore 8, 2) := by decide +kernel
theorem dX7_odds_126 : decode cX7_odds 126 = .ok (.lload 6, 2) := by decide +kernel
theorem dX7_odds_128 : decode cX7_odds 128 = .ok (.ldc2_w 216, 3) := by decide +kernel
theorem dX7_odds_131 : decode cX7_odds 131 = .ok (.ldiv, 1) := by decide +kernel
theorem dX7_odds_132 : decode cX7_odds 132 = .ok (.lstore 6, 2) := by decide +kernel
theorem dX7_odds_134 : decode cX7_odds 134 = .ok (.iinc 10 1, 3) := by decide +kernel
theorem dX7_odds_137 : decode cX7_odds 137 = .ok (.goto (-48), 3) := by decide +kernel
theorem dX7_odds_140 : decode cX7_odds 140 = .ok (.iload_n 1, 1) := by decide +kernel
theorem dX7_odds_141 : decode cX7_odds 141 = .ok (.iconst 2, 1) := by decide +kernel
theorem dX7_odds_142 : decode cX7_odds 142 = .ok (.irem, 1) := by decide +kernel
theorem dX7_odds_143 : decode cX7_odds 143 = .ok (.ifCond .ne 8, 3) := by decide +kernel
theorem dX7_odds_146 : decode cX7_odds 146 = .ok (.lload 8, 2) := by decide +kernel
theorem dX7_odds_148 : decode cX7_odds 148 = .ok (.goto 5, 3) := by decide +kernel
theorem dX7_odds_151 : decode cX7_odds 151 = .ok (.lload 6, 2) := by decide +kernel
theorem dX7_odds_153 : decode cX7_odds 153 = .ok (.lreturn, 1) := by decide +kernel
theorem dX7_drawn_0 : decode cX7_drawn 0 = .ok (.iload_n 1, 1) := by decide +kernel
theorem dX7_drawn_1 : decode cX7_drawn 1 = .ok (.istore_n 2, 1) := by decide +kernel
theorem dX7_drawn_2 : decode cX7_drawn 2 = .ok (.iconst 0, 1) := by decide +kernel
theorem dX7_drawn_3 : decode cX7_drawn 3 = .ok (.istore_n 3, 1) := by decide +kernel
theorem dX7_drawn_4 : decode cX7_drawn 4 = .ok (.iload_n 3, 1) := by decide +kernel
theorem dX7_drawn_5 : decode cX7_drawn 5 = .ok (.aload_n 0, 1) := by decide +kernel
theorem dX7_drawn_6 : decode cX7_drawn 6 = .ok (.getfield 18, 3) := by decide +kernel
theorem dX7_drawn_9 : decode cX7_drawn 9 = .ok (.getfield 92, 3) := by decide +kernel
theorem dX7_drawn_12 : decode cX7_drawn 12 = .ok (.if_icmp .ge 44, 3) := by decide +kernel
theorem dX7_drawn_15 : decode cX7_drawn 15 = .ok (.aload_n 0, 1) := by decide +kernel
theorem dX7_drawn_16 : decode cX7_drawn 16 = .ok (.iload_n 3, 1) := by decide +kernel
theorem dX7_drawn_17 : decode cX7_drawn 17 = .ok (.invokevirtual 211, 3) := by decide +kernel
theorem dX7_drawn_20 : decode cX7_drawn 20 = .ok (.istore 4, 2) := by decide +kernel
theorem dX7_drawn_22 : decode cX7_drawn 22 = .ok (.iload 4, 2) := by decide +kernel
theorem dX7_drawn_24 : decode cX7_drawn 24 = .ok (.ifCond .le 26, 3) := by decide +kernel
theorem dX7_drawn_27 : decode cX7_drawn 27 = .ok (.ldc 218, 2) := by decide +kernel
theorem dX7_drawn_29 : decode cX7_drawn 29 = .ok (.iload_n 2, 1) := by decide +kernel
theorem dX7_drawn_30 : decode cX7_drawn 30 = .ok (.imul, 1) := by decide +kernel
theorem dX7_drawn_31 : decode cX7_drawn 31 = .ok (.sipush 12345, 3) := by decide +kernel
theorem dX7_drawn_34 : decode cX7_drawn 34 = .ok (.iadd, 1) := by decide +kernel
theorem dX7_drawn_35 : decode cX7_drawn 35 = .ok (.istore_n 2, 1) := by decide +kernel
theorem dX7_drawn_36 : decode cX7_drawn 36 = .ok (.iload_n 2, 1) := by decide +kernel
theorem dX7_drawn_37 : decode cX7_drawn 37 = .ok (.bipush 16, 2) := by decide +kernel
theorem dX7_drawn_39 : decode cX7_drawn 39 = .ok (.iushr, 1) := by decide +kernel
theorem dX7_drawn_40 : decode cX7_drawn 40 = .ok (.bipush 16, 2) := by decide +kernel
theorem dX7_drawn_42 : decode cX7_drawn 42 = .ok (.irem, 1) := by decide +kernel
theorem dX7_drawn_43 : decode cX7_drawn 43 = .ok (.iload 4, 2) := by decide +kernel
theorem dX7_drawn_45 : decode cX7_drawn 45 = .ok (.if_icmp .ge 5, 3) := by decide +kernel
theorem dX7_drawn_48 : decode cX7_drawn 48 = .ok (.iload_n 3, 1) := by decide +kernel
theorem dX7_drawn_49 : decode cX7_drawn 49 = .ok (.ireturn, 1) := by decide +kernel
theorem dX7_drawn_50 : decode cX7_drawn 50 = .ok (.iinc 3 1, 3) := by decide +kernel
theorem dX7_drawn_53 : decode cX7_drawn 53 = .ok (.goto (-49), 3) := by decide +kernel
theorem dX7_drawn_56 : decode cX7_drawn 56 = .ok (.aload_n 0, 1) := by decide +kernel
theorem dX7_drawn_57 : decode cX7_drawn 57 = .ok (.getfield 18, 3) := by decide +kernel
theorem dX7_drawn_60 : decode cX7_drawn 60 = .ok (.getfield 92, 3) := by decide +kernel
theorem dX7_drawn_63 : decode cX7_drawn 63 = .ok (.ireturn, 1) := by decide +kernel
theorem dX7_line_0 : decode cX7_line 0 = .ok (.iload_n 1, 1) := by decide +kernel
theorem dX7_line_1 : decode cX7_line 1 = .ok (.iconst (-1), 1) := by decide +kernel
theorem dX7_line_2 : decode cX7_line 2 = .ok (.if_icmp .lt 18, 3) := by decide +kernel
theorem dX7_line_5 : decode cX7_line 5 = .ok (.iload_n 1, 1) := by decide +kernel
theorem dX7_line_6 : decode cX7_line 6 = .ok (.bipush 10, 2) := by decide +kernel
theorem dX7_line_8 : decode cX7_line 8 = .ok (.if_icmp .gt 12, 3) := by decide +kernel
theorem dX7_line_11 : decode cX7_line 11 = .ok (.iload_n 2, 1) := by decide +kernel
theorem dX7_line_12 : decode cX7_line 12 = .ok (.ifCond .lt 8, 3) := by decide +kernel
theorem dX7_line_15 : decode cX7_line 15 = .ok (.iload_n 2, 1) := by decide +kernel
theorem dX7_line_16 : decode cX7_line 16 = .ok (.iconst 1, 1) := by decide +kernel
theorem dX7_line_17 : decode cX7_line 17 = .ok (.if_icmp .le 6, 3) := by decide +kernel
theorem dX7_line_20 : decode cX7_line 20 = .ok (.bipush (-2), 2) := by decide +kernel
theorem dX7_line_22 : decode cX7_line 22 = .ok (.ireturn, 1) := by decide +kernel
theorem dX7_line_23 : decode cX7_line 23 = .ok (.iload_n 1, 1) := by decide +kernel
theorem dX7_line_24 : decode cX7_line 24 = .ok (.iconst (-1), 1) := by decide +kernel
theorem dX7_line_25 : decode cX7_line 25 = .ok (.if_icmp .eq 10, 3) := by decide +kernel
theorem dX7_line_28 : decode cX7_line 28 = .ok (.aload_n 0, 1) := by decide +kernel
theorem dX7_line_29 : decode cX7_line 29 = .ok (.iload_n 1, 1) := by decide +kernel
theorem dX7_line_30 : decode cX7_line 30 = .ok (.iload_n 2, 1) := by decide +kernel
theorem dX7_line_31 : decode cX7_line 31 = .ok (.invokevirtual 219, 3) := by decide +kernel
theorem dX7_line_34 : decode cX7_line 34 = .ok (.ireturn, 1) := by decide +kernel
theorem dX7_line_35 : decode cX7_line 35 = .ok (.aload_n 0, 1) := by decide +kernel
theorem dX7_line_36 : decode cX7_line 36 = .ok (.invokevirtual 222, 3) := by decide +kernel
theorem dX7_line_39 : decode cX7_line 39 = .ok (.istore_n 3, 1) := by decide +kernel
theorem dX7_line_40 : decode cX7_line 40 = .ok (.iload_n 2, 1) := by decide +kernel
theorem dX7_line_41 : decode cX7_line 41 = .ok (.ifCond .ne 7, 3) := by decide +kernel
theorem dX7_line_44 : decode cX7_line 44 = .ok (.iload_n 3, 1) := by decide +kernel
theorem dX7_line_45 : decode cX7_line 45 = .ok (.goto 16, 3) := by decide +kernel
theorem dX7_line_48 : decode cX7_line 48 = .ok (.aload_n 0, 1) := by decide +kernel
theorem dX7_line_49 : decode cX7_line 49 = .ok (.iload_n 3, 1) := by decide +kernel
theorem dX7_line_50 : decode cX7_line 50 = .ok (.iconst 0, 1) := by decide +kernel
theorem dX7_line_51 : decode cX7_line 51 = .ok (.invokevirtual 219, 3) := by decide +kernel
theorem dX7_line_54 : decode cX7_line 54 = .ok (.aload_n 0, 1) := by decide +kernel
theorem dX7_line_55 : decode cX7_line 55 = .ok (.iload_n 3, 1) := by decide +kernel
theorem dX7_line_56 : decode cX7_line 56 = .ok (.iconst 1, 1) := by decide +kernel
theorem dX7_line_57 : decode cX7_line 57 = .ok (.invokevirtual 219, 3) := by decide +kernel
theorem dX7_line_60 : decode cX7_line 60 = .ok (.iadd, 1) := by decide +kernel
theorem dX7_line_61 : decode cX7_line 61 = .ok (.ireturn, 1) := by decide +kernel
theorem dX7_seen_0 : decode cX7_seen 0 = .ok (.iload_n 1, 1) := by decide +kernel
theorem dX7_seen_1 : decode cX7_seen 1 = .ok (.iload_n 2, 1) := by decide +kernel
theorem dX7_seen_2 : decode cX7_seen 2 = .ok (.invokestatic 225, 3) := by decide +kernel
theorem dX7_seen_5 : decode cX7_seen 5 = .ok (.ifCond .ne 6, 3) := by decide +kernel
theorem dX7_seen_8 : decode cX7_seen 8 = .ok (.bipush (-2), 2) := by decide +kernel
theorem dX7_seen_10 : decode cX7_seen 10 = .ok (.ireturn, 1) := by decide +kernel
theorem dX7_seen_11 : decode cX7_seen 11 = .ok (.aload_n 0, 1) := by decide +kernel
theorem dX7_seen_12 : decode cX7_seen 12 = .ok (.getfield 56, 3) := by decide +kernel
theorem dX7_seen_15 : decode cX7_seen 15 = .ok (.invokevirtual 229, 3) := by decide +kernel
theorem dX7_seen_18 : decode cX7_seen 18 = .ok (.ifCond .eq 6, 3) := by decide +kernel
theorem dX7_seen_21 : decode cX7_seen 21 = .ok (.bipush (-4), 2) := by decide +kernel
theorem dX7_seen_23 : decode cX7_seen 23 = .ok (.ireturn, 1) := by decide +kernel
theorem dX7_seen_24 : decode cX7_seen 24 = .ok (.aload_n 0, 1) := by decide +kernel
theorem dX7_seen_25 : decode cX7_seen 25 = .ok (.getfield 56, 3) := by decide +kernel
theorem dX7_seen_28 : decode cX7_seen 28 = .ok (.iload_n 1, 1) := by decide +kernel
theorem dX7_seen_29 : decode cX7_seen 29 = .ok (.iload_n 2, 1) := by decide +kernel
theorem dX7_seen_30 : decode cX7_seen 30 = .ok (.invokevirtual 230, 3) := by decide +kernel
theorem dX7_seen_33 : decode cX7_seen 33 = .ok (.aload_n 0, 1) := by decide +kernel
theorem dX7_seen_34 : decode cX7_seen 34 = .ok (.getfield 56, 3) := by decide +kernel
theorem dX7_seen_37 : decode cX7_seen 37 = .ok (.getfield 234, 3) := by decide +kernel
theorem dX7_seen_40 : decode cX7_seen 40 = .ok (.ireturn, 1) := by decide +kernel
theorem dX7_forget_0 : decode cX7_forget 0 = .ok (.aload_n 0, 1) := by decide +kernel
theorem dX7_forget_1 : decode cX7_forget 1 = .ok (.getfield 56, 3) := by decide +kernel
theorem dX7_forget_4 : decode cX7_forget 4 = .ok (.getfield 234, 3) := by decide +kernel
theorem dX7_forget_7 : decode cX7_forget 7 = .ok (.istore_n 1, 1) := by decide +kernel
theorem dX7_forget_8 : decode cX7_forget 8 = .ok (.aload_n 0, 1) := by decide +kernel
theorem dX7_forget_9 : decode cX7_forget 9 = .ok (.getfield 56, 3) := by decide +kernel
theorem dX7_forget_12 : decode cX7_forget 12 = .ok (.iconst 0, 1) := by decide +kernel
theorem dX7_forget_13 : decode cX7_forget 13 = .ok (.putfield 234, 3) := by decide +kernel
theorem dX7_forget_16 : decode cX7_forget 16 = .ok (.iload_n 1, 1) := by decide +kernel
theorem dX7_forget_17 : decode cX7_forget 17 = .ok (.ireturn, 1) := by decide +kernel
theorem dX7_leads_0 : decode cX7_leads 0 = .ok (.iconst 0, 1) := by decide +kernel
theorem dX7_leads_1 : decode cX7_leads 1 = .ok (.istore_n 1, 1) := by decide +kernel
theorem dX7_leads_2 : decode cX7_leads 2 = .ok (.iconst 0, 1) := by decide +kernel
theorem dX7_leads_3 : decode cX7_leads 3 = .ok (.istore_n 2, 1) := by decide +kernel
theorem dX7_leads_4 : decode cX7_leads 4 = .ok (.iload_n 2, 1) := by decide +kernel
theorem dX7_leads_5 : decode cX7_leads 5 = .ok (.bipush 30, 2) := by decide +kernel
theorem dX7_leads_7 : decode cX7_leads 7 = .ok (.if_icmp .gt 59, 3) := by decide +kernel
theorem dX7_leads_10 : decode cX7_leads 10 = .ok (.aload_n 0, 1) := by decide +kernel
theorem dX7_leads_11 : decode cX7_leads 11 = .ok (.getfield 32, 3) := by decide +kernel
theorem dX7_leads_14 : decode cX7_leads 14 = .ok (.aload_n 0, 1) := by decide +kernel
theorem dX7_leads_15 : decode cX7_leads 15 = .ok (.getfield 7, 3) := by decide +kernel
theorem dX7_leads_18 : decode cX7_leads 18 = .ok (.invokevirtual 195, 3) := by decide +kernel
theorem dX7_leads_21 : decode cX7_leads 21 = .ok (.aload_n 0, 1) := by decide +kernel
theorem dX7_leads_22 : decode cX7_leads 22 = .ok (.getfield 32, 3) := by decide +kernel
theorem dX7_leads_25 : decode cX7_leads 25 = .ok (.iload_n 2, 1) := by decide +kernel
theorem dX7_leads_26 : decode cX7_leads 26 = .ok (.invokevirtual 199, 3) := by decide +kernel
theorem dX7_leads_29 : decode cX7_leads 29 = .ok (.aload_n 0, 1) := by decide +kernel
theorem dX7_leads_30 : decode cX7_leads 30 = .ok (.getfield 32, 3) := by decide +kernel
theorem dX7_leads_33 : decode cX7_leads 33 = .ok (.aload_n 0, 1) := by decide +kernel
theorem dX7_leads_34 : decode cX7_leads 34 = .ok (.getfield 18, 3) := by decide +kernel
theorem dX7_leads_37 : decode cX7_leads 37 = .ok (.invokevirtual 202, 3) := by decide +kernel
theorem dX7_leads_40 : decode cX7_leads 40 = .ok (.aload_n 0, 1) := by decide +kernel
theorem dX7_leads_41 : decode cX7_leads 41 = .ok (.getfield 56, 3) := by decide +kernel
theorem dX7_leads_44 : decode cX7_leads 44 = .ok (.aload_n 0, 1) := by decide +kernel
theorem dX7_leads_45 : decode cX7_leads 45 = .ok (.getfield 32, 3) := by decide +kernel
theorem dX7_leads_48 : decode cX7_leads 48 = .ok (.invokevirtual 235, 3) := by decide +kernel
theorem dX7_leads_51 : decode cX7_leads 51 = .ok (.ifCond .eq 9, 3) := by decide +kernel
theorem dX7_leads_54 : decode cX7_leads 54 = .ok (.iload_n 1, 1) := by decide +kernel
theorem dX7_leads_55 : decode cX7_leads 55 = .ok (.iconst 1, 1) := by decide +kernel
theorem dX7_leads_56 : decode cX7_leads 56 = .ok (.iload_n 2, 1) := by decide +kernel
theorem dX7_leads_57 : decode cX7_leads 57 = .ok (.ishl, 1) := by decide +kernel
theorem dX7_leads_58 : decode cX7_leads 58 = .ok (.ior, 1) := by decide +kernel
theorem dX7_leads_59 : decode cX7_leads 59 = .ok (.istore_n 1, 1) := by decide +kernel
theorem dX7_leads_60 : decode cX7_leads 60 = .ok (.iinc 2 1, 3) := by decide +kernel
theorem dX7_leads_63 : decode cX7_leads 63 = .ok (.goto (-59), 3) := by decide +kernel
theorem dX7_leads_66 : decode cX7_leads 66 = .ok (.iload_n 1, 1) := by decide +kernel
theorem dX7_leads_67 : decode cX7_leads 67 = .ok (.ireturn, 1) := by decide +kernel
theorem dX7_read_0 : decode cX7_read 0 = .ok (.iload_n 1, 1) := by decide +kernel
theorem dX7_read_1 : decode cX7_read 1 = .ok (.invokestatic 239, 3) := by decide +kernel
theorem dX7_read_4 : decode cX7_read 4 = .ok (.ifCond .ne 6, 3) := by decide +kernel
theorem dX7_read_7 : decode cX7_read 7 = .ok (.bipush (-2), 2) := by decide +kernel
theorem dX7_read_9 : decode cX7_read 9 = .ok (.ireturn, 1) := by decide +kernel
theorem dX7_read_10 : decode cX7_read 10 = .ok (.aload_n 0, 1) := by decide +kernel
theorem dX7_read_11 : decode cX7_read 11 = .ok (.getfield 62, 3) := by decide +kernel
theorem dX7_read_14 : decode cX7_read 14 = .ok (.iload_n 1, 1) := by decide +kernel
theorem dX7_read_15 : decode cX7_read 15 = .ok (.aaload, 1) := by decide +kernel
theorem dX7_read_16 : decode cX7_read 16 = .ok (.astore_n 2, 1) := by decide +kernel
theorem dX7_read_17 : decode cX7_read 17 = .ok (.aload_n 2, 1) := by decide +kernel
theorem dX7_read_18 : decode cX7_read 18 = .ok (.getfield 242, 3) := by decide +kernel
theorem dX7_read_21 : decode cX7_read 21 = .ok (.ifCond .eq 9, 3) := by decide +kernel
theorem dX7_read_24 : decode cX7_read 24 = .ok (.aload_n 0, 1) := by decide +kernel
theorem dX7_read_25 : decode cX7_read 25 = .ok (.iconst 1, 1) := by decide +kernel
theorem dX7_read_26 : decode cX7_read 26 = .ok (.invokevirtual 245, 3) := by decide +kernel
theorem dX7_read_29 : decode cX7_read 29 = .ok (.ireturn, 1) := by decide +kernel
theorem dX7_read_30 : decode cX7_read 30 = .ok (.iconst 0, 1) := by decide +kernel
theorem dX7_read_31 : decode cX7_read 31 = .ok (.istore_n 3, 1) := by decide +kernel
theorem dX7_read_32 : decode cX7_read 32 = .ok (.iconst 0, 1) := by decide +kernel
theorem dX7_read_33 : decode cX7_read 33 = .ok (.istore 4, 2) := by decide +kernel
theorem dX7_read_35 : decode cX7_read 35 = .ok (.iload 4, 2) := by decide +kernel
theorem dX7_read_37 : decode cX7_read 37 = .ok (.iconst 1, 1) := by decide +kernel
theorem dX7_read_38 : decode cX7_read 38 = .ok (.iadd, 1) := by decide +kernel
theorem dX7_read_39 : decode cX7_read 39 = .ok (.aload_n 2, 1) := by decide +kernel
theorem dX7_read_40 : decode cX7_read 40 = .ok (.getfield 248, 3) := by decide +kernel
theorem dX7_read_43 : decode cX7_read 43 = .ok (.if_icmp .ge 64, 3) := by decide +kernel
theorem dX7_read_46 : decode cX7_read 46 = .ok (.aload_n 2, 1) := by decide +kernel
theorem dX7_read_47 : decode cX7_read 47 = .ok (.iload 4, 2) := by decide +kernel
theorem dX7_read_49 : decode cX7_read 49 = .ok (.invokevirtual 249, 3) := by decide +kernel
theorem dX7_read_52 : decode cX7_read 52 = .ok (.istore 5, 2) := by decide +kernel
theorem dX7_read_54 : decode cX7_read 54 = .ok (.aload_n 2, 1) := by decide +kernel
theorem dX7_read_55 : decode cX7_read 55 = .ok (.iload 4, 2) := by decide +kernel
theorem dX7_read_57 : decode cX7_read 57 = .ok (.iconst 1, 1) := by decide +kernel
theorem dX7_read_58 : decode cX7_read 58 = .ok (.iadd, 1) := by decide +kernel
theorem dX7_read_59 : decode cX7_read 59 = .ok (.invokevirtual 249, 3) := by decide +kernel
theorem dX7_read_62 : decode cX7_read 62 = .ok (.istore 6, 2) := by decide +kernel
theorem dX7_read_64 : decode cX7_read 64 = .ok (.iload 5, 2) := by decide +kernel
theorem dX7_read_66 : decode cX7_read 66 = .ok (.iload 6, 2) := by decide +kernel
theorem dX7_read_68 : decode cX7_read 68 = .ok (.invokestatic 225, 3) := by decide +kernel
theorem dX7_read_71 : decode cX7_read 71 = .ok (.ifCond .eq 36, 3) := by decide +kernel
theorem dX7_read_74 : decode cX7_read 74 = .ok (.aload_n 0, 1) := by decide +kernel
theorem dX7_read_75 : decode cX7_read 75 = .ok (.getfield 56, 3) := by decide +kernel
theorem dX7_read_78 : decode cX7_read 78 = .ok (.invokevirtual 229, 3) := by decide +kernel
theorem dX7_read_81 : decode cX7_read 81 = .ok (.ifCond .eq 6, 3) := by decide +kernel
theorem dX7_read_84 : decode cX7_read 84 = .ok (.goto 23, 3) := by decide +kernel
