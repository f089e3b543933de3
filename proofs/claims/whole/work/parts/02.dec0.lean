theorem dX0_init_0 : decode cX0_init 0 = .ok (.aload_n 0, 1) := by decide +kernel
theorem dX0_init_1 : decode cX0_init 1 = .ok (.invokespecial 3, 3) := by decide +kernel
theorem dX0_init_4 : decode cX0_init 4 = .ok (.aload_n 0, 1) := by decide +kernel
theorem dX0_init_5 : decode cX0_init 5 = .ok (.bipush 7, 2) := by decide +kernel
theorem dX0_init_7 : decode cX0_init 7 = .ok (.newarray .int, 2) := by decide +kernel
theorem dX0_init_9 : decode cX0_init 9 = .ok (.putfield 11, 3) := by decide +kernel
theorem dX0_init_12 : decode cX0_init 12 = .ok (.aload_n 0, 1) := by decide +kernel
theorem dX0_init_13 : decode cX0_init 13 = .ok (.bipush 7, 2) := by decide +kernel
theorem dX0_init_15 : decode cX0_init 15 = .ok (.newarray .int, 2) := by decide +kernel
theorem dX0_init_17 : decode cX0_init 17 = .ok (.putfield 15, 3) := by decide +kernel
theorem dX0_init_20 : decode cX0_init 20 = .ok (.aload_n 0, 1) := by decide +kernel
theorem dX0_init_21 : decode cX0_init 21 = .ok (.bipush 7, 2) := by decide +kernel
theorem dX0_init_23 : decode cX0_init 23 = .ok (.newarray .boolean, 2) := by decide +kernel
theorem dX0_init_25 : decode cX0_init 25 = .ok (.putfield 18, 3) := by decide +kernel
theorem dX0_init_28 : decode cX0_init 28 = .ok (.aload_n 0, 1) := by decide +kernel
theorem dX0_init_29 : decode cX0_init 29 = .ok (.aload_n 1, 1) := by decide +kernel
theorem dX0_init_30 : decode cX0_init 30 = .ok (.putfield 22, 3) := by decide +kernel
theorem dX0_init_33 : decode cX0_init 33 = .ok (.aload_n 0, 1) := by decide +kernel
theorem dX0_init_34 : decode cX0_init 34 = .ok (.aload_n 2, 1) := by decide +kernel
theorem dX0_init_35 : decode cX0_init 35 = .ok (.putfield 26, 3) := by decide +kernel
theorem dX0_init_38 : decode cX0_init 38 = .ok (.aload_n 0, 1) := by decide +kernel
theorem dX0_init_39 : decode cX0_init 39 = .ok (.aload_n 3, 1) := by decide +kernel
theorem dX0_init_40 : decode cX0_init 40 = .ok (.putfield 30, 3) := by decide +kernel
theorem dX0_init_43 : decode cX0_init 43 = .ok (.return_, 1) := by decide +kernel
theorem dX0_seek_0 : decode cX0_seek 0 = .ok (.aload_n 0, 1) := by decide +kernel
theorem dX0_seek_1 : decode cX0_seek 1 = .ok (.bipush 7, 2) := by decide +kernel
theorem dX0_seek_3 : decode cX0_seek 3 = .ok (.aload_n 0, 1) := by decide +kernel
theorem dX0_seek_4 : decode cX0_seek 4 = .ok (.getfield 26, 3) := by decide +kernel
theorem dX0_seek_7 : decode cX0_seek 7 = .ok (.getfield 33, 3) := by decide +kernel
theorem dX0_seek_10 : decode cX0_seek 10 = .ok (.invokestatic 39, 3) := by decide +kernel
theorem dX0_seek_13 : decode cX0_seek 13 = .ok (.putfield 45, 3) := by decide +kernel
theorem dX0_seek_16 : decode cX0_seek 16 = .ok (.aload_n 0, 1) := by decide +kernel
theorem dX0_seek_17 : decode cX0_seek 17 = .ok (.ldc 46, 2) := by decide +kernel
theorem dX0_seek_19 : decode cX0_seek 19 = .ok (.putfield 47, 3) := by decide +kernel
theorem dX0_seek_22 : decode cX0_seek 22 = .ok (.aload_n 0, 1) := by decide +kernel
theorem dX0_seek_23 : decode cX0_seek 23 = .ok (.ldc 46, 2) := by decide +kernel
theorem dX0_seek_25 : decode cX0_seek 25 = .ok (.putfield 50, 3) := by decide +kernel
theorem dX0_seek_28 : decode cX0_seek 28 = .ok (.iconst 0, 1) := by decide +kernel
theorem dX0_seek_29 : decode cX0_seek 29 = .ok (.istore_n 1, 1) := by decide +kernel
theorem dX0_seek_30 : decode cX0_seek 30 = .ok (.iload_n 1, 1) := by decide +kernel
theorem dX0_seek_31 : decode cX0_seek 31 = .ok (.bipush 7, 2) := by decide +kernel
theorem dX0_seek_33 : decode cX0_seek 33 = .ok (.if_icmp .ge 23, 3) := by decide +kernel
theorem dX0_seek_36 : decode cX0_seek 36 = .ok (.aload_n 0, 1) := by decide +kernel
theorem dX0_seek_37 : decode cX0_seek 37 = .ok (.getfield 15, 3) := by decide +kernel
theorem dX0_seek_40 : decode cX0_seek 40 = .ok (.iload_n 1, 1) := by decide +kernel
theorem dX0_seek_41 : decode cX0_seek 41 = .ok (.iconst (-1), 1) := by decide +kernel
theorem dX0_seek_42 : decode cX0_seek 42 = .ok (.iastore, 1) := by decide +kernel
theorem dX0_seek_43 : decode cX0_seek 43 = .ok (.aload_n 0, 1) := by decide +kernel
theorem dX0_seek_44 : decode cX0_seek 44 = .ok (.getfield 18, 3) := by decide +kernel
theorem dX0_seek_47 : decode cX0_seek 47 = .ok (.iload_n 1, 1) := by decide +kernel
theorem dX0_seek_48 : decode cX0_seek 48 = .ok (.iconst 0, 1) := by decide +kernel
theorem dX0_seek_49 : decode cX0_seek 49 = .ok (.bastore, 1) := by decide +kernel
theorem dX0_seek_50 : decode cX0_seek 50 = .ok (.iinc 1 1, 3) := by decide +kernel
theorem dX0_seek_53 : decode cX0_seek 53 = .ok (.goto (-23), 3) := by decide +kernel
theorem dX0_seek_56 : decode cX0_seek 56 = .ok (.aload_n 0, 1) := by decide +kernel
theorem dX0_seek_57 : decode cX0_seek 57 = .ok (.getfield 22, 3) := by decide +kernel
theorem dX0_seek_60 : decode cX0_seek 60 = .ok (.aload_n 0, 1) := by decide +kernel
theorem dX0_seek_61 : decode cX0_seek 61 = .ok (.getfield 30, 3) := by decide +kernel
theorem dX0_seek_64 : decode cX0_seek 64 = .ok (.invokevirtual 53, 3) := by decide +kernel
theorem dX0_seek_67 : decode cX0_seek 67 = .ok (.aload_n 0, 1) := by decide +kernel
theorem dX0_seek_68 : decode cX0_seek 68 = .ok (.getfield 22, 3) := by decide +kernel
theorem dX0_seek_71 : decode cX0_seek 71 = .ok (.invokevirtual 59, 3) := by decide +kernel
theorem dX0_seek_74 : decode cX0_seek 74 = .ok (.aload_n 0, 1) := by decide +kernel
theorem dX0_seek_75 : decode cX0_seek 75 = .ok (.iconst 0, 1) := by decide +kernel
theorem dX0_seek_76 : decode cX0_seek 76 = .ok (.invokestatic 62, 3) := by decide +kernel
theorem dX0_seek_79 : decode cX0_seek 79 = .ok (.return_, 1) := by decide +kernel
theorem dX0_placeFrom_0 : decode cX0_placeFrom 0 = .ok (.iload_n 1, 1) := by decide +kernel
theorem dX0_placeFrom_1 : decode cX0_placeFrom 1 = .ok (.aload_n 0, 1) := by decide +kernel
theorem dX0_placeFrom_2 : decode cX0_placeFrom 2 = .ok (.getfield 45, 3) := by decide +kernel
theorem dX0_placeFrom_5 : decode cX0_placeFrom 5 = .ok (.if_icmp .ge 9, 3) := by decide +kernel
theorem dX0_placeFrom_8 : decode cX0_placeFrom 8 = .ok (.iload_n 1, 1) := by decide +kernel
theorem dX0_placeFrom_9 : decode cX0_placeFrom 9 = .ok (.bipush 7, 2) := by decide +kernel
theorem dX0_placeFrom_11 : decode cX0_placeFrom 11 = .ok (.if_icmp .lt 8, 3) := by decide +kernel
theorem dX0_placeFrom_14 : decode cX0_placeFrom 14 = .ok (.aload_n 0, 1) := by decide +kernel
theorem dX0_placeFrom_15 : decode cX0_placeFrom 15 = .ok (.invokevirtual 66, 3) := by decide +kernel
theorem dX0_placeFrom_18 : decode cX0_placeFrom 18 = .ok (.return_, 1) := by decide +kernel
theorem dX0_placeFrom_19 : decode cX0_placeFrom 19 = .ok (.iconst 0, 1) := by decide +kernel
theorem dX0_placeFrom_20 : decode cX0_placeFrom 20 = .ok (.istore_n 2, 1) := by decide +kernel
theorem dX0_placeFrom_21 : decode cX0_placeFrom 21 = .ok (.iload_n 2, 1) := by decide +kernel
theorem dX0_placeFrom_22 : decode cX0_placeFrom 22 = .ok (.aload_n 0, 1) := by decide +kernel
theorem dX0_placeFrom_23 : decode cX0_placeFrom 23 = .ok (.getfield 45, 3) := by decide +kernel
theorem dX0_placeFrom_26 : decode cX0_placeFrom 26 = .ok (.if_icmp .ge 81, 3) := by decide +kernel
theorem dX0_placeFrom_29 : decode cX0_placeFrom 29 = .ok (.iload_n 2, 1) := by decide +kernel
theorem dX0_placeFrom_30 : decode cX0_placeFrom 30 = .ok (.bipush 7, 2) := by decide +kernel
theorem dX0_placeFrom_32 : decode cX0_placeFrom 32 = .ok (.if_icmp .ge 75, 3) := by decide +kernel
theorem dX0_placeFrom_35 : decode cX0_placeFrom 35 = .ok (.aload_n 0, 1) := by decide +kernel
theorem dX0_placeFrom_36 : decode cX0_placeFrom 36 = .ok (.getfield 18, 3) := by decide +kernel
theorem dX0_placeFrom_39 : decode cX0_placeFrom 39 = .ok (.iload_n 2, 1) := by decide +kernel
theorem dX0_placeFrom_40 : decode cX0_placeFrom 40 = .ok (.baload, 1) := by decide +kernel
theorem dX0_placeFrom_41 : decode cX0_placeFrom 41 = .ok (.ifCond .eq 6, 3) := by decide +kernel
theorem dX0_placeFrom_44 : decode cX0_placeFrom 44 = .ok (.goto 57, 3) := by decide +kernel
theorem dX0_placeFrom_47 : decode cX0_placeFrom 47 = .ok (.aload_n 0, 1) := by decide +kernel
theorem dX0_placeFrom_48 : decode cX0_placeFrom 48 = .ok (.getfield 18, 3) := by decide +kernel
theorem dX0_placeFrom_51 : decode cX0_placeFrom 51 = .ok (.iload_n 2, 1) := by decide +kernel
theorem dX0_placeFrom_52 : decode cX0_placeFrom 52 = .ok (.iconst 1, 1) := by decide +kernel
theorem dX0_placeFrom_53 : decode cX0_placeFrom 53 = .ok (.bastore, 1) := by decide +kernel
theorem dX0_placeFrom_54 : decode cX0_placeFrom 54 = .ok (.aload_n 0, 1) := by decide +kernel
theorem dX0_placeFrom_55 : decode cX0_placeFrom 55 = .ok (.getfield 11, 3) := by decide +kernel
theorem dX0_placeFrom_58 : decode cX0_placeFrom 58 = .ok (.iload_n 1, 1) := by decide +kernel
theorem dX0_placeFrom_59 : decode cX0_placeFrom 59 = .ok (.iload_n 2, 1) := by decide +kernel
theorem dX0_placeFrom_60 : decode cX0_placeFrom 60 = .ok (.iastore, 1) := by decide +kernel
theorem dX0_placeFrom_61 : decode cX0_placeFrom 61 = .ok (.aload_n 0, 1) := by decide +kernel
theorem dX0_placeFrom_62 : decode cX0_placeFrom 62 = .ok (.getfield 22, 3) := by decide +kernel
theorem dX0_placeFrom_65 : decode cX0_placeFrom 65 = .ok (.aload_n 0, 1) := by decide +kernel
theorem dX0_placeFrom_66 : decode cX0_placeFrom 66 = .ok (.getfield 26, 3) := by decide +kernel
theorem dX0_placeFrom_69 : decode cX0_placeFrom 69 = .ok (.iload_n 2, 1) := by decide +kernel
theorem dX0_placeFrom_70 : decode cX0_placeFrom 70 = .ok (.invokevirtual 69, 3) := by decide +kernel
theorem dX0_placeFrom_73 : decode cX0_placeFrom 73 = .ok (.aload_n 0, 1) := by decide +kernel
theorem dX0_placeFrom_74 : decode cX0_placeFrom 74 = .ok (.invokevirtual 73, 3) := by decide +kernel
theorem dX0_placeFrom_77 : decode cX0_placeFrom 77 = .ok (.ifCond .eq 10, 3) := by decide +kernel
theorem dX0_placeFrom_80 : decode cX0_placeFrom 80 = .ok (.aload_n 0, 1) := by decide +kernel
theorem dX0_placeFrom_81 : decode cX0_placeFrom 81 = .ok (.iload_n 1, 1) := by decide +kernel
theorem dX0_placeFrom_82 : decode cX0_placeFrom 82 = .ok (.iconst 1, 1) := by decide +kernel
theorem dX0_placeFrom_83 : decode cX0_placeFrom 83 = .ok (.iadd, 1) := by decide +kernel
theorem dX0_placeFrom_84 : decode cX0_placeFrom 84 = .ok (.invokestatic 62, 3) := by decide +kernel
theorem dX0_placeFrom_87 : decode cX0_placeFrom 87 = .ok (.aload_n 0, 1) := by decide +kernel
theorem dX0_placeFrom_88 : decode cX0_placeFrom 88 = .ok (.getfield 22, 3) := by decide +kernel
theorem dX0_placeFrom_91 : decode cX0_placeFrom 91 = .ok (.invokevirtual 77, 3) := by decide +kernel
theorem dX0_placeFrom_94 : decode cX0_placeFrom 94 = .ok (.aload_n 0, 1) := by decide +kernel
theorem dX0_placeFrom_95 : decode cX0_placeFrom 95 = .ok (.getfield 18, 3) := by decide +kernel
theorem dX0_placeFrom_98 : decode cX0_placeFrom 98 = .ok (.iload_n 2, 1) := by decide +kernel
theorem dX0_placeFrom_99 : decode cX0_placeFrom 99 = .ok (.iconst 0, 1) := by decide +kernel
theorem dX0_placeFrom_100 : decode cX0_placeFrom 100 = .ok (.bastore, 1) := by decide +kernel
theorem dX0_placeFrom_101 : decode cX0_placeFrom 101 = .ok (.iinc 2 1, 3) := by decide +kernel
theorem dX0_placeFrom_104 : decode cX0_placeFrom 104 = .ok (.goto (-83), 3) := by decide +kernel
theorem dX0_placeFrom_107 : decode cX0_placeFrom 107 = .ok (.return_, 1) := by decide +kernel
theorem dX0_mayBeBest_0 : decode cX0_mayBeBest 0 = .ok (.aload_n 0, 1) := by decide +kernel
theorem dX0_mayBeBest_1 : decode cX0_mayBeBest 1 = .ok (.getfield 22, 3) := by decide +kernel
theorem dX0_mayBeBest_4 : decode cX0_mayBeBest 4 = .ok (.invokevirtual 80, 3) := by decide +kernel
theorem dX0_mayBeBest_7 : decode cX0_mayBeBest 7 = .ok (.astore_n 1, 1) := by decide +kernel
theorem dX0_mayBeBest_8 : decode cX0_mayBeBest 8 = .ok (.aload_n 1, 1) := by decide +kernel
theorem dX0_mayBeBest_9 : decode cX0_mayBeBest 9 = .ok (.getfield 84, 3) := by decide +kernel
theorem dX0_mayBeBest_12 : decode cX0_mayBeBest 12 = .ok (.aload_n 0, 1) := by decide +kernel
theorem dX0_mayBeBest_13 : decode cX0_mayBeBest 13 = .ok (.getfield 47, 3) := by decide +kernel
theorem dX0_mayBeBest_16 : decode cX0_mayBeBest 16 = .ok (.if_icmp .lt 25, 3) := by decide +kernel
theorem dX0_mayBeBest_19 : decode cX0_mayBeBest 19 = .ok (.aload_n 1, 1) := by decide +kernel
theorem dX0_mayBeBest_20 : decode cX0_mayBeBest 20 = .ok (.getfield 84, 3) := by decide +kernel
theorem dX0_mayBeBest_23 : decode cX0_mayBeBest 23 = .ok (.aload_n 0, 1) := by decide +kernel
theorem dX0_mayBeBest_24 : decode cX0_mayBeBest 24 = .ok (.getfield 47, 3) := by decide +kernel
theorem dX0_mayBeBest_27 : decode cX0_mayBeBest 27 = .ok (.if_icmp .ne 18, 3) := by decide +kernel
theorem dX0_mayBeBest_30 : decode cX0_mayBeBest 30 = .ok (.aload_n 1, 1) := by decide +kernel
theorem dX0_mayBeBest_31 : decode cX0_mayBeBest 31 = .ok (.getfield 89, 3) := by decide +kernel
theorem dX0_mayBeBest_34 : decode cX0_mayBeBest 34 = .ok (.aload_n 0, 1) := by decide +kernel
theorem dX0_mayBeBest_35 : decode cX0_mayBeBest 35 = .ok (.getfield 50, 3) := by decide +kernel
theorem dX0_mayBeBest_38 : decode cX0_mayBeBest 38 = .ok (.if_icmp .ge 7, 3) := by decide +kernel
theorem dX0_mayBeBest_41 : decode cX0_mayBeBest 41 = .ok (.iconst 1, 1) := by decide +kernel
theorem dX0_mayBeBest_42 : decode cX0_mayBeBest 42 = .ok (.goto 4, 3) := by decide +kernel
theorem dX0_mayBeBest_45 : decode cX0_mayBeBest 45 = .ok (.iconst 0, 1) := by decide +kernel
theorem dX0_mayBeBest_46 : decode cX0_mayBeBest 46 = .ok (.ireturn, 1) := by decide +kernel
theorem dX0_keep_0 : decode cX0_keep 0 = .ok (.aload_n 0, 1) := by decide +kernel
theorem dX0_keep_1 : decode cX0_keep 1 = .ok (.aload_n 0, 1) := by decide +kernel
theorem dX0_keep_2 : decode cX0_keep 2 = .ok (.getfield 22, 3) := by decide +kernel
theorem dX0_keep_5 : decode cX0_keep 5 = .ok (.invokevirtual 80, 3) := by decide +kernel
theorem dX0_keep_8 : decode cX0_keep 8 = .ok (.getfield 84, 3) := by decide +kernel
theorem dX0_keep_11 : decode cX0_keep 11 = .ok (.putfield 47, 3) := by decide +kernel
theorem dX0_keep_14 : decode cX0_keep 14 = .ok (.aload_n 0, 1) := by decide +kernel
theorem dX0_keep_15 : decode cX0_keep 15 = .ok (.aload_n 0, 1) := by decide +kernel
theorem dX0_keep_16 : decode cX0_keep 16 = .ok (.getfield 22, 3) := by decide +kernel
theorem dX0_keep_19 : decode cX0_keep 19 = .ok (.invokevirtual 80, 3) := by decide +kernel
theorem dX0_keep_22 : decode cX0_keep 22 = .ok (.getfield 89, 3) := by decide +kernel
theorem dX0_keep_25 : decode cX0_keep 25 = .ok (.putfield 50, 3) := by decide +kernel
theorem dX0_keep_28 : decode cX0_keep 28 = .ok (.iconst 0, 1) := by decide +kernel
theorem dX0_keep_29 : decode cX0_keep 29 = .ok (.istore_n 1, 1) := by decide +kernel
theorem dX0_keep_30 : decode cX0_keep 30 = .ok (.iload_n 1, 1) := by decide +kernel
theorem dX0_keep_31 : decode cX0_keep 31 = .ok (.aload_n 0, 1) := by decide +kernel
theorem dX0_keep_32 : decode cX0_keep 32 = .ok (.getfield 45, 3) := by decide +kernel
theorem dX0_keep_35 : decode cX0_keep 35 = .ok (.if_icmp .ge 27, 3) := by decide +kernel
theorem dX0_keep_38 : decode cX0_keep 38 = .ok (.iload_n 1, 1) := by decide +kernel
theorem dX0_keep_39 : decode cX0_keep 39 = .ok (.bipush 7, 2) := by decide +kernel
theorem dX0_keep_41 : decode cX0_keep 41 = .ok (.if_icmp .ge 21, 3) := by decide +kernel
theorem dX0_keep_44 : decode cX0_keep 44 = .ok (.aload_n 0, 1) := by decide +kernel
theorem dX0_keep_45 : decode cX0_keep 45 = .ok (.getfield 15, 3) := by decide +kernel
theorem dX0_keep_48 : decode cX0_keep 48 = .ok (.iload_n 1, 1) := by decide +kernel
theorem dX0_keep_49 : decode cX0_keep 49 = .ok (.aload_n 0, 1) := by decide +kernel
theorem dX0_keep_50 : decode cX0_keep 50 = .ok (.getfield 11, 3) := by decide +kernel
theorem dX0_keep_53 : decode cX0_keep 53 = .ok (.iload_n 1, 1) := by decide +kernel
theorem dX0_keep_54 : decode cX0_keep 54 = .ok (.iaload, 1) := by decide +kernel
theorem dX0_keep_55 : decode cX0_keep 55 = .ok (.iastore, 1) := by decide +kernel
theorem dX0_keep_56 : decode cX0_keep 56 = .ok (.iinc 1 1, 3) := by decide +kernel
theorem dX0_keep_59 : decode cX0_keep 59 = .ok (.goto (-29), 3) := by decide +kernel
theorem dX0_keep_62 : decode cX0_keep 62 = .ok (.return_, 1) := by decide +kernel
theorem dX1_init_0 : decode cX1_init 0 = .ok (.aload_n 0, 1) := by decide +kernel
theorem dX1_init_1 : decode cX1_init 1 = .ok (.invokespecial 3, 3) := by decide +kernel
theorem dX1_init_4 : decode cX1_init 4 = .ok (.aload_n 0, 1) := by decide +kernel
theorem dX1_init_5 : decode cX1_init 5 = .ok (.bipush 6, 2) := by decide +kernel
theorem dX1_init_7 : decode cX1_init 7 = .ok (.newarray .int, 2) := by decide +kernel
theorem dX1_init_9 : decode cX1_init 9 = .ok (.putfield 11, 3) := by decide +kernel
theorem dX1_init_12 : decode cX1_init 12 = .ok (.aload_n 0, 1) := by decide +kernel
theorem dX1_init_13 : decode cX1_init 13 = .ok (.aload_n 1, 1) := by decide +kernel
theorem dX1_init_14 : decode cX1_init 14 = .ok (.putfield 15, 3) := by decide +kernel
theorem dX1_init_17 : decode cX1_init 17 = .ok (.aload_n 0, 1) := by decide +kernel
theorem dX1_init_18 : decode cX1_init 18 = .ok (.aload_n 2, 1) := by decide +kernel
theorem dX1_init_19 : decode cX1_init 19 = .ok (.putfield 19, 3) := by decide +kernel
theorem dX1_init_22 : decode cX1_init 22 = .ok (.aload_n 0, 1) := by decide +kernel
theorem dX1_init_23 : decode cX1_init 23 = .ok (.aload_n 3, 1) := by decide +kernel
theorem dX1_init_24 : decode cX1_init 24 = .ok (.putfield 23, 3) := by decide +kernel
theorem dX1_init_27 : decode cX1_init 27 = .ok (.aload_n 0, 1) := by decide +kernel
theorem dX1_init_28 : decode cX1_init 28 = .ok (.aload 4, 2) := by decide +kernel
theorem dX1_init_30 : decode cX1_init 30 = .ok (.putfield 26, 3) := by decide +kernel
theorem dX1_init_33 : decode cX1_init 33 = .ok (.return_, 1) := by decide +kernel
theorem dX1_seek_0 : decode cX1_seek 0 = .ok (.iconst 0, 1) := by decide +kernel
theorem dX1_seek_1 : decode cX1_seek 1 = .ok (.istore_n 1, 1) := by decide +kernel
theorem dX1_seek_2 : decode cX1_seek 2 = .ok (.iload_n 1, 1) := by decide +kernel
theorem dX1_seek_3 : decode cX1_seek 3 = .ok (.bipush 6, 2) := by decide +kernel
theorem dX1_seek_5 : decode cX1_seek 5 = .ok (.if_icmp .ge 16, 3) := by decide +kernel
theorem dX1_seek_8 : decode cX1_seek 8 = .ok (.aload_n 0, 1) := by decide +kernel
theorem dX1_seek_9 : decode cX1_seek 9 = .ok (.getfield 11, 3) := by decide +kernel
theorem dX1_seek_12 : decode cX1_seek 12 = .ok (.iload_n 1, 1) := by decide +kernel
theorem dX1_seek_13 : decode cX1_seek 13 = .ok (.iconst (-1), 1) := by decide +kernel
theorem dX1_seek_14 : decode cX1_seek 14 = .ok (.iastore, 1) := by decide +kernel
theorem dX1_seek_15 : decode cX1_seek 15 = .ok (.iinc 1 1, 3) := by decide +kernel
theorem dX1_seek_18 : decode cX1_seek 18 = .ok (.goto (-16), 3) := by decide +kernel
theorem dX1_seek_21 : decode cX1_seek 21 = .ok (.aload_n 0, 1) := by decide +kernel
theorem dX1_seek_22 : decode cX1_seek 22 = .ok (.iconst 0, 1) := by decide +kernel
theorem dX1_seek_23 : decode cX1_seek 23 = .ok (.iconst (-1), 1) := by decide +kernel
theorem dX1_seek_24 : decode cX1_seek 24 = .ok (.iconst (-1), 1) := by decide +kernel
theorem dX1_seek_25 : decode cX1_seek 25 = .ok (.iconst (-1), 1) := by decide +kernel
theorem dX1_seek_26 : decode cX1_seek 26 = .ok (.iconst (-1), 1) := by decide +kernel
theorem dX1_seek_27 : decode cX1_seek 27 = .ok (.invokevirtual 29, 3) := by decide +kernel
theorem dX1_seek_30 : decode cX1_seek 30 = .ok (.aload_n 0, 1) := by decide +kernel
theorem dX1_seek_31 : decode cX1_seek 31 = .ok (.getfield 11, 3) := by decide +kernel
theorem dX1_seek_34 : decode cX1_seek 34 = .ok (.iconst 0, 1) := by decide +kernel
theorem dX1_seek_35 : decode cX1_seek 35 = .ok (.iaload, 1) := by decide +kernel
theorem dX1_seek_36 : decode cX1_seek 36 = .ok (.iconst (-1), 1) := by decide +kernel
theorem dX1_seek_37 : decode cX1_seek 37 = .ok (.if_icmp .ne 7, 3) := by decide +kernel
theorem dX1_seek_40 : decode cX1_seek 40 = .ok (.aload_n 0, 1) := by decide +kernel
theorem dX1_seek_41 : decode cX1_seek 41 = .ok (.invokevirtual 33, 3) := by decide +kernel
theorem dX1_seek_44 : decode cX1_seek 44 = .ok (.aload_n 0, 1) := by decide +kernel
theorem dX1_seek_45 : decode cX1_seek 45 = .ok (.getfield 11, 3) := by decide +kernel
theorem dX1_seek_48 : decode cX1_seek 48 = .ok (.iconst 0, 1) := by decide +kernel
theorem dX1_seek_49 : decode cX1_seek 49 = .ok (.iaload, 1) := by decide +kernel
theorem dX1_seek_50 : decode cX1_seek 50 = .ok (.iconst (-1), 1) := by decide +kernel
theorem dX1_seek_51 : decode cX1_seek 51 = .ok (.if_icmp .ne 7, 3) := by decide +kernel
theorem dX1_seek_54 : decode cX1_seek 54 = .ok (.aload_n 0, 1) := by decide +kernel
theorem dX1_seek_55 : decode cX1_seek 55 = .ok (.invokevirtual 36, 3) := by decide +kernel
theorem dX1_seek_58 : decode cX1_seek 58 = .ok (.return_, 1) := by decide +kernel
theorem dX1_seekOne_0 : decode cX1_seekOne 0 = .ok (.iconst 0, 1) := by decide +kernel
theorem dX1_seekOne_1 : decode cX1_seekOne 1 = .ok (.istore_n 1, 1) := by decide +kernel
theorem dX1_seekOne_2 : decode cX1_seekOne 2 = .ok (.iload_n 1, 1) := by decide +kernel
theorem dX1_seekOne_3 : decode cX1_seekOne 3 = .ok (.aload_n 0, 1) := by decide +kernel
theorem dX1_seekOne_4 : decode cX1_seekOne 4 = .ok (.getfield 19, 3) := by decide +kernel
theorem dX1_seekOne_7 : decode cX1_seekOne 7 = .ok (.getfield 39, 3) := by decide +kernel
theorem dX1_seekOne_10 : decode cX1_seekOne 10 = .ok (.if_icmp .gt 37, 3) := by decide +kernel
theorem dX1_seekOne_13 : decode cX1_seekOne 13 = .ok (.iconst 0, 1) := by decide +kernel
theorem dX1_seekOne_14 : decode cX1_seekOne 14 = .ok (.istore_n 2, 1) := by decide +kernel
theorem dX1_seekOne_15 : decode cX1_seekOne 15 = .ok (.iload_n 2, 1) := by decide +kernel
theorem dX1_seekOne_16 : decode cX1_seekOne 16 = .ok (.aload_n 0, 1) := by decide +kernel
theorem dX1_seekOne_17 : decode cX1_seekOne 17 = .ok (.getfield 23, 3) := by decide +kernel
theorem dX1_seekOne_20 : decode cX1_seekOne 20 = .ok (.getfield 39, 3) := by decide +kernel
theorem dX1_seekOne_23 : decode cX1_seekOne 23 = .ok (.if_icmp .ge 18, 3) := by decide +kernel
theorem dX1_seekOne_26 : decode cX1_seekOne 26 = .ok (.aload_n 0, 1) := by decide +kernel
theorem dX1_seekOne_27 : decode cX1_seekOne 27 = .ok (.iconst 1, 1) := by decide +kernel
theorem dX1_seekOne_28 : decode cX1_seekOne 28 = .ok (.iload_n 1, 1) := by decide +kernel
theorem dX1_seekOne_29 : decode cX1_seekOne 29 = .ok (.iload_n 2, 1) := by decide +kernel
theorem dX1_seekOne_30 : decode cX1_seekOne 30 = .ok (.iconst (-1), 1) := by decide +kernel
theorem dX1_seekOne_31 : decode cX1_seekOne 31 = .ok (.iconst (-1), 1) := by decide +kernel
theorem dX1_seekOne_32 : decode cX1_seekOne 32 = .ok (.invokevirtual 29, 3) := by decide +kernel
theorem dX1_seekOne_35 : decode cX1_seekOne 35 = .ok (.iinc 2 1, 3) := by decide +kernel
theorem dX1_seekOne_38 : decode cX1_seekOne 38 = .ok (.goto (-23), 3) := by decide +kernel
theorem dX1_seekOne_41 : decode cX1_seekOne 41 = .ok (.iinc 1 1, 3) := by decide +kernel
theorem dX1_seekOne_44 : decode cX1_seekOne 44 = .ok (.goto (-42), 3) := by decide +kernel
theorem dX1_seekOne_47 : decode cX1_seekOne 47 = .ok (.return_, 1) := by decide +kernel
theorem dX1_seekTwo_0 : decode cX1_seekTwo 0 = .ok (.aload_n 0, 1) := by decide +kernel
theorem dX1_seekTwo_1 : decode cX1_seekTwo 1 = .ok (.getfield 23, 3) := by decide +kernel
theorem dX1_seekTwo_4 : decode cX1_seekTwo 4 = .ok (.getfield 39, 3) := by decide +kernel
theorem dX1_seekTwo_7 : decode cX1_seekTwo 7 = .ok (.aload_n 0, 1) := by decide +kernel
theorem dX1_seekTwo_8 : decode cX1_seekTwo 8 = .ok (.getfield 23, 3) := by decide +kernel
theorem dX1_seekTwo_11 : decode cX1_seekTwo 11 = .ok (.getfield 39, 3) := by decide +kernel
theorem dX1_seekTwo_14 : decode cX1_seekTwo 14 = .ok (.imul, 1) := by decide +kernel
theorem dX1_seekTwo_15 : decode cX1_seekTwo 15 = .ok (.istore_n 1, 1) := by decide +kernel
theorem dX1_seekTwo_16 : decode cX1_seekTwo 16 = .ok (.iconst 0, 1) := by decide +kernel
theorem dX1_seekTwo_17 : decode cX1_seekTwo 17 = .ok (.istore_n 2, 1) := by decide +kernel
theorem dX1_seekTwo_18 : decode cX1_seekTwo 18 = .ok (.iload_n 2, 1) := by decide +kernel
theorem dX1_seekTwo_19 : decode cX1_seekTwo 19 = .ok (.aload_n 0, 1) := by decide +kernel
theorem dX1_seekTwo_20 : decode cX1_seekTwo 20 = .ok (.getfield 19, 3) := by decide +kernel
theorem dX1_seekTwo_23 : decode cX1_seekTwo 23 = .ok (.getfield 39, 3) := by decide +kernel
theorem dX1_seekTwo_26 : decode cX1_seekTwo 26 = .ok (.if_icmp .gt 80, 3) := by decide +kernel
theorem dX1_seekTwo_29 : decode cX1_seekTwo 29 = .ok (.iload_n 2, 1) := by decide +kernel
theorem dX1_seekTwo_30 : decode cX1_seekTwo 30 = .ok (.istore_n 3, 1) := by decide +kernel
theorem dX1_seekTwo_31 : decode cX1_seekTwo 31 = .ok (.iload_n 3, 1) := by decide +kernel
theorem dX1_seekTwo_32 : decode cX1_seekTwo 32 = .ok (.aload_n 0, 1) := by decide +kernel
theorem dX1_seekTwo_33 : decode cX1_seekTwo 33 = .ok (.getfield 19, 3) := by decide +kernel
theorem dX1_seekTwo_36 : decode cX1_seekTwo 36 = .ok (.getfield 39, 3) := by decide +kernel
theorem dX1_seekTwo_39 : decode cX1_seekTwo 39 = .ok (.if_icmp .gt 61, 3) := by decide +kernel
theorem dX1_seekTwo_42 : decode cX1_seekTwo 42 = .ok (.iconst 0, 1) := by decide +kernel
theorem dX1_seekTwo_43 : decode cX1_seekTwo 43 = .ok (.istore 4, 2) := by decide +kernel
theorem dX1_seekTwo_45 : decode cX1_seekTwo 45 = .ok (.iload 4, 2) := by decide +kernel
theorem dX1_seekTwo_47 : decode cX1_seekTwo 47 = .ok (.iload_n 1, 1) := by decide +kernel
theorem dX1_seekTwo_48 : decode cX1_seekTwo 48 = .ok (.if_icmp .ge 46, 3) := by decide +kernel
theorem dX1_seekTwo_51 : decode cX1_seekTwo 51 = .ok (.aload_n 0, 1) := by decide +kernel
theorem dX1_seekTwo_52 : decode cX1_seekTwo 52 = .ok (.getfield 23, 3) := by decide +kernel
theorem dX1_seekTwo_55 : decode cX1_seekTwo 55 = .ok (.getfield 39, 3) := by decide +kernel
theorem dX1_seekTwo_58 : decode cX1_seekTwo 58 = .ok (.ifCond .le 36, 3) := by decide +kernel
theorem dX1_seekTwo_61 : decode cX1_seekTwo 61 = .ok (.aload_n 0, 1) := by decide +kernel
theorem dX1_seekTwo_62 : decode cX1_seekTwo 62 = .ok (.iconst 2, 1) := by decide +kernel
theorem dX1_seekTwo_63 : decode cX1_seekTwo 63 = .ok (.iload_n 2, 1) := by decide +kernel
theorem dX1_seekTwo_64 : decode cX1_seekTwo 64 = .ok (.iload 4, 2) := by decide +kernel
theorem dX1_seekTwo_66 : decode cX1_seekTwo 66 = .ok (.aload_n 0, 1) := by decide +kernel
theorem dX1_seekTwo_67 : decode cX1_seekTwo 67 = .ok (.getfield 23, 3) := by decide +kernel
theorem dX1_seekTwo_70 : decode cX1_seekTwo 70 = .ok (.getfield 39, 3) := by decide +kernel
theorem dX1_seekTwo_73 : decode cX1_seekTwo 73 = .ok (.idiv, 1) := by decide +kernel
theorem dX1_seekTwo_74 : decode cX1_seekTwo 74 = .ok (.iload_n 3, 1) := by decide +kernel
theorem dX1_seekTwo_75 : decode cX1_seekTwo 75 = .ok (.iload 4, 2) := by decide +kernel
theorem dX1_seekTwo_77 : decode cX1_seekTwo 77 = .ok (.aload_n 0, 1) := by decide +kernel
theorem dX1_seekTwo_78 : decode cX1_seekTwo 78 = .ok (.getfield 23, 3) := by decide +kernel
theorem dX1_seekTwo_81 : decode cX1_seekTwo 81 = .ok (.getfield 39, 3) := by decide +kernel
theorem dX1_seekTwo_84 : decode cX1_seekTwo 84 = .ok (.irem, 1) := by decide +kernel
theorem dX1_seekTwo_85 : decode cX1_seekTwo 85 = .ok (.invokevirtual 29, 3) := by decide +kernel
theorem dX1_seekTwo_88 : decode cX1_seekTwo 88 = .ok (.iinc 4 1, 3) := by decide +kernel
theorem dX1_seekTwo_91 : decode cX1_seekTwo 91 = .ok (.goto (-46), 3) := by decide +kernel
theorem dX1_seekTwo_94 : decode cX1_seekTwo 94 = .ok (.iinc 3 1, 3) := by decide +kernel
theorem dX1_seekTwo_97 : decode cX1_seekTwo 97 = .ok (.goto (-66), 3) := by decide +kernel
theorem dX1_seekTwo_100 : decode cX1_seekTwo 100 = .ok (.iinc 2 1, 3) := by decide +kernel
theorem dX1_seekTwo_103 : decode cX1_seekTwo 103 = .ok (.goto (-85), 3) := by decide +kernel
theorem dX1_seekTwo_106 : decode cX1_seekTwo 106 = .ok (.return_, 1) := by decide +kernel
theorem dX1_attempt_0 : decode cX1_attempt 0 = .ok (.aload_n 0, 1) := by decide +kernel
theorem dX1_attempt_1 : decode cX1_attempt 1 = .ok (.getfield 15, 3) := by decide +kernel
theorem dX1_attempt_4 : decode cX1_attempt 4 = .ok (.aload_n 0, 1) := by decide +kernel
theorem dX1_attempt_5 : decode cX1_attempt 5 = .ok (.getfield 26, 3) := by decide +kernel
theorem dX1_attempt_8 : decode cX1_attempt 8 = .ok (.invokevirtual 45, 3) := by decide +kernel
theorem dX1_attempt_11 : decode cX1_attempt 11 = .ok (.iconst 0, 1) := by decide +kernel
theorem dX1_attempt_12 : decode cX1_attempt 12 = .ok (.istore 6, 2) := by decide +kernel
theorem dX1_attempt_14 : decode cX1_attempt 14 = .ok (.iload 6, 2) := by decide +kernel
theorem dX1_attempt_16 : decode cX1_attempt 16 = .ok (.aload_n 0, 1) := by decide +kernel
theorem dX1_attempt_17 : decode cX1_attempt 17 = .ok (.getfield 19, 3) := by decide +kernel
theorem dX1_attempt_20 : decode cX1_attempt 20 = .ok (.getfield 39, 3) := by decide +kernel
theorem dX1_attempt_23 : decode cX1_attempt 23 = .ok (.if_icmp .gt 82, 3) := by decide +kernel
theorem dX1_attempt_26 : decode cX1_attempt 26 = .ok (.aload_n 0, 1) := by decide +kernel
theorem dX1_attempt_27 : decode cX1_attempt 27 = .ok (.getfield 15, 3) := by decide +kernel
theorem dX1_attempt_30 : decode cX1_attempt 30 = .ok (.invokevirtual 51, 3) := by decide +kernel
theorem dX1_attempt_33 : decode cX1_attempt 33 = .ok (.ifCond .eq 72, 3) := by decide +kernel
theorem dX1_attempt_36 : decode cX1_attempt 36 = .ok (.iload 6, 2) := by decide +kernel
theorem dX1_attempt_38 : decode cX1_attempt 38 = .ok (.iload_n 2, 1) := by decide +kernel
theorem dX1_attempt_39 : decode cX1_attempt 39 = .ok (.if_icmp .ne 15, 3) := by decide +kernel
theorem dX1_attempt_42 : decode cX1_attempt 42 = .ok (.aload_n 0, 1) := by decide +kernel
theorem dX1_attempt_43 : decode cX1_attempt 43 = .ok (.getfield 15, 3) := by decide +kernel
theorem dX1_attempt_46 : decode cX1_attempt 46 = .ok (.aload_n 0, 1) := by decide +kernel
theorem dX1_attempt_47 : decode cX1_attempt 47 = .ok (.getfield 23, 3) := by decide +kernel
theorem dX1_attempt_50 : decode cX1_attempt 50 = .ok (.iload_n 3, 1) := by decide +kernel
theorem dX1_attempt_51 : decode cX1_attempt 51 = .ok (.invokevirtual 55, 3) := by decide +kernel
theorem dX1_attempt_54 : decode cX1_attempt 54 = .ok (.iload 6, 2) := by decide +kernel
theorem dX1_attempt_56 : decode cX1_attempt 56 = .ok (.iload 4, 2) := by decide +kernel
theorem dX1_attempt_58 : decode cX1_attempt 58 = .ok (.if_icmp .ne 16, 3) := by decide +kernel
theorem dX1_attempt_61 : decode cX1_attempt 61 = .ok (.aload_n 0, 1) := by decide +kernel
theorem dX1_attempt_62 : decode cX1_attempt 62 = .ok (.getfield 15, 3) := by decide +kernel
theorem dX1_attempt_65 : decode cX1_attempt 65 = .ok (.aload_n 0, 1) := by decide +kernel
theorem dX1_attempt_66 : decode cX1_attempt 66 = .ok (.getfield 23, 3) := by decide +kernel
theorem dX1_attempt_69 : decode cX1_attempt 69 = .ok (.iload 5, 2) := by decide +kernel
theorem dX1_attempt_71 : decode cX1_attempt 71 = .ok (.invokevirtual 55, 3) := by decide +kernel
theorem dX1_attempt_74 : decode cX1_attempt 74 = .ok (.iload 6, 2) := by decide +kernel
theorem dX1_attempt_76 : decode cX1_attempt 76 = .ok (.aload_n 0, 1) := by decide +kernel
theorem dX1_attempt_77 : decode cX1_attempt 77 = .ok (.getfield 19, 3) := by decide +kernel
theorem dX1_attempt_80 : decode cX1_attempt 80 = .ok (.getfield 39, 3) := by decide +kernel
theorem dX1_attempt_83 : decode cX1_attempt 83 = .ok (.if_icmp .ge 16, 3) := by decide +kernel
theorem dX1_attempt_86 : decode cX1_attempt 86 = .ok (.aload_n 0, 1) := by decide +kernel
theorem dX1_attempt_87 : decode cX1_attempt 87 = .ok (.getfield 15, 3) := by decide +kernel
theorem dX1_attempt_90 : decode cX1_attempt 90 = .ok (.aload_n 0, 1) := by decide +kernel
theorem dX1_attempt_91 : decode cX1_attempt 91 = .ok (.getfield 19, 3) := by decide +kernel
theorem dX1_attempt_94 : decode cX1_attempt 94 = .ok (.iload 6, 2) := by decide +kernel
theorem dX1_attempt_96 : decode cX1_attempt 96 = .ok (.invokevirtual 55, 3) := by decide +kernel
theorem dX1_attempt_99 : decode cX1_attempt 99 = .ok (.iinc 6 1, 3) := by decide +kernel
theorem dX1_attempt_102 : decode cX1_attempt 102 = .ok (.goto (-88), 3) := by decide +kernel
theorem dX1_attempt_105 : decode cX1_attempt 105 = .ok (.aload_n 0, 1) := by decide +kernel
theorem dX1_attempt_106 : decode cX1_attempt 106 = .ok (.getfield 15, 3) := by decide +kernel
theorem dX1_attempt_109 : decode cX1_attempt 109 = .ok (.invokevirtual 59, 3) := by decide +kernel
theorem dX1_attempt_112 : decode cX1_attempt 112 = .ok (.getfield 63, 3) := by decide +kernel
theorem dX1_attempt_115 : decode cX1_attempt 115 = .ok (.istore 6, 2) := by decide +kernel
theorem dX1_attempt_117 : decode cX1_attempt 117 = .ok (.aload_n 0, 1) := by decide +kernel
theorem dX1_attempt_118 : decode cX1_attempt 118 = .ok (.getfield 15, 3) := by decide +kernel
theorem dX1_attempt_121 : decode cX1_attempt 121 = .ok (.invokevirtual 51, 3) := by decide +kernel
theorem dX1_attempt_124 : decode cX1_attempt 124 = .ok (.ifCond .eq 69, 3) := by decide +kernel
theorem dX1_attempt_127 : decode cX1_attempt 127 = .ok (.aload_n 0, 1) := by decide +kernel
theorem dX1_attempt_128 : decode cX1_attempt 128 = .ok (.getfield 11, 3) := by decide +kernel
theorem dX1_attempt_131 : decode cX1_attempt 131 = .ok (.iconst 0, 1) := by decide +kernel
theorem dX1_attempt_132 : decode cX1_attempt 132 = .ok (.iaload, 1) := by decide +kernel
theorem dX1_attempt_133 : decode cX1_attempt 133 = .ok (.iconst (-1), 1) := by decide +kernel
theorem dX1_attempt_134 : decode cX1_attempt 134 = .ok (.if_icmp .eq 14, 3) := by decide +kernel
theorem dX1_attempt_137 : decode cX1_attempt 137 = .ok (.iload 6, 2) := by decide +kernel
theorem dX1_attempt_139 : decode cX1_attempt 139 = .ok (.aload_n 0, 1) := by decide +kernel
theorem dX1_attempt_140 : decode cX1_attempt 140 = .ok (.getfield 11, 3) := by decide +kernel
theorem dX1_attempt_143 : decode cX1_attempt 143 = .ok (.iconst 1, 1) := by decide +kernel
theorem dX1_attempt_144 : decode cX1_attempt 144 = .ok (.iaload, 1) := by decide +kernel
theorem dX1_attempt_145 : decode cX1_attempt 145 = .ok (.if_icmp .ge 48, 3) := by decide +kernel
theorem dX1_attempt_148 : decode cX1_attempt 148 = .ok (.aload_n 0, 1) := by decide +kernel
theorem dX1_attempt_149 : decode cX1_attempt 149 = .ok (.getfield 11, 3) := by decide +kernel
theorem dX1_attempt_152 : decode cX1_attempt 152 = .ok (.iconst 0, 1) := by decide +kernel
theorem dX1_attempt_153 : decode cX1_attempt 153 = .ok (.iload_n 1, 1) := by decide +kernel
theorem dX1_attempt_154 : decode cX1_attempt 154 = .ok (.iastore, 1) := by decide +kernel
theorem dX1_attempt_155 : decode cX1_attempt 155 = .ok (.aload_n 0, 1) := by decide +kernel
theorem dX1_attempt_156 : decode cX1_attempt 156 = .ok (.getfield 11, 3) := by decide +kernel
theorem dX1_attempt_159 : decode cX1_attempt 159 = .ok (.iconst 1, 1) := by decide +kernel
theorem dX1_attempt_160 : decode cX1_attempt 160 = .ok (.iload 6, 2) := by decide +kernel
theorem dX1_attempt_162 : decode cX1_attempt 162 = .ok (.iastore, 1) := by decide +kernel
theorem dX1_attempt_163 : decode cX1_attempt 163 = .ok (.aload_n 0, 1) := by decide +kernel
theorem dX1_attempt_164 : decode cX1_attempt 164 = .ok (.getfield 11, 3) := by decide +kernel
theorem dX1_attempt_167 : decode cX1_attempt 167 = .ok (.iconst 2, 1) := by decide +kernel
theorem dX1_attempt_168 : decode cX1_attempt 168 = .ok (.iload_n 2, 1) := by decide +kernel
theorem dX1_attempt_169 : decode cX1_attempt 169 = .ok (.iastore, 1) := by decide +kernel
theorem dX1_attempt_170 : decode cX1_attempt 170 = .ok (.aload_n 0, 1) := by decide +kernel
theorem dX1_attempt_171 : decode cX1_attempt 171 = .ok (.getfield 11, 3) := by decide +kernel
theorem dX1_attempt_174 : decode cX1_attempt 174 = .ok (.iconst 3, 1) := by decide +kernel
theorem dX1_attempt_175 : decode cX1_attempt 175 = .ok (.iload_n 3, 1) := by decide +kernel
theorem dX1_attempt_176 : decode cX1_attempt 176 = .ok (.iastore, 1) := by decide +kernel
theorem dX1_attempt_177 : decode cX1_attempt 177 = .ok (.aload_n 0, 1) := by decide +kernel
theorem dX1_attempt_178 : decode cX1_attempt 178 = .ok (.getfield 11, 3) := by decide +kernel
theorem dX1_attempt_181 : decode cX1_attempt 181 = .ok (.iconst 4, 1) := by decide +kernel
theorem dX1_attempt_182 : decode cX1_attempt 182 = .ok (.iload 4, 2) := by decide +kernel
theorem dX1_attempt_184 : decode cX1_attempt 184 = .ok (.iastore, 1) := by decide +kernel
theorem dX1_attempt_185 : decode cX1_attempt 185 = .ok (.aload_n 0, 1) := by decide +kernel
theorem dX1_attempt_186 : decode cX1_attempt 186 = .ok (.getfield 11, 3) := by decide +kernel
theorem dX1_attempt_189 : decode cX1_attempt 189 = .ok (.iconst 5, 1) := by decide +kernel
theorem dX1_attempt_190 : decode cX1_attempt 190 = .ok (.iload 5, 2) := by decide +kernel
theorem dX1_attempt_192 : decode cX1_attempt 192 = .ok (.iastore, 1) := by decide +kernel
theorem dX1_attempt_193 : decode cX1_attempt 193 = .ok (.return_, 1) := by decide +kernel
theorem dX2_init_0 : decode cX2_init 0 = .ok (.aload_n 0, 1) := by decide +kernel
theorem dX2_init_1 : decode cX2_init 1 = .ok (.invokespecial 3, 3) := by decide +kernel
theorem dX2_init_4 : decode cX2_init 4 = .ok (.aload_n 0, 1) := by decide +kernel
theorem dX2_init_5 : decode cX2_init 5 = .ok (.iconst (-1), 1) := by decide +kernel
theorem dX2_init_6 : decode cX2_init 6 = .ok (.putfield 9, 3) := by decide +kernel
theorem dX2_init_9 : decode cX2_init 9 = .ok (.aload_n 0, 1) := by decide +kernel
theorem dX2_init_10 : decode cX2_init 10 = .ok (.iload_n 1, 1) := by decide +kernel
theorem dX2_init_11 : decode cX2_init 11 = .ok (.newarray .int, 2) := by decide +kernel
theorem dX2_init_13 : decode cX2_init 13 = .ok (.putfield 15, 3) := by decide +kernel
theorem dX2_init_16 : decode cX2_init 16 = .ok (.return_, 1) := by decide +kernel
theorem dX2_isFull_0 : decode cX2_isFull 0 = .ok (.aload_n 0, 1) := by decide +kernel
theorem dX2_isFull_1 : decode cX2_isFull 1 = .ok (.getfield 19, 3) := by decide +kernel
theorem dX2_isFull_4 : decode cX2_isFull 4 = .ok (.aload_n 0, 1) := by decide +kernel
theorem dX2_isFull_5 : decode cX2_isFull 5 = .ok (.getfield 15, 3) := by decide +kernel
theorem dX2_isFull_8 : decode cX2_isFull 8 = .ok (.arraylength, 1) := by decide +kernel
theorem dX2_isFull_9 : decode cX2_isFull 9 = .ok (.if_icmp .lt 7, 3) := by decide +kernel
theorem dX2_isFull_12 : decode cX2_isFull 12 = .ok (.iconst 1, 1) := by decide +kernel
theorem dX2_isFull_13 : decode cX2_isFull 13 = .ok (.goto 4, 3) := by decide +kernel
theorem dX2_isFull_16 : decode cX2_isFull 16 = .ok (.iconst 0, 1) := by decide +kernel
theorem dX2_isFull_17 : decode cX2_isFull 17 = .ok (.ireturn, 1) := by decide +kernel
theorem dX2_append_0 : decode cX2_append 0 = .ok (.aload_n 0, 1) := by decide +kernel
theorem dX2_append_1 : decode cX2_append 1 = .ok (.invokevirtual 22, 3) := by decide +kernel
theorem dX2_append_4 : decode cX2_append 4 = .ok (.ifCond .ne 27, 3) := by decide +kernel
theorem dX2_append_7 : decode cX2_append 7 = .ok (.aload_n 0, 1) := by decide +kernel
theorem dX2_append_8 : decode cX2_append 8 = .ok (.getfield 15, 3) := by decide +kernel
theorem dX2_append_11 : decode cX2_append 11 = .ok (.aload_n 0, 1) := by decide +kernel
theorem dX2_append_12 : decode cX2_append 12 = .ok (.getfield 19, 3) := by decide +kernel
theorem dX2_append_15 : decode cX2_append 15 = .ok (.iload_n 1, 1) := by decide +kernel
theorem dX2_append_16 : decode cX2_append 16 = .ok (.iastore, 1) := by decide +kernel
theorem dX2_append_17 : decode cX2_append 17 = .ok (.aload_n 0, 1) := by decide +kernel
theorem dX2_append_18 : decode cX2_append 18 = .ok (.dup, 1) := by decide +kernel
theorem dX2_append_19 : decode cX2_append 19 = .ok (.getfield 19, 3) := by decide +kernel
theorem dX2_append_22 : decode cX2_append 22 = .ok (.iconst 1, 1) := by decide +kernel
theorem dX2_append_23 : decode cX2_append 23 = .ok (.iadd, 1) := by decide +kernel
theorem dX2_append_24 : decode cX2_append 24 = .ok (.putfield 19, 3) := by decide +kernel
theorem dX2_append_27 : decode cX2_append 27 = .ok (.aload_n 0, 1) := by decide +kernel
theorem dX2_append_28 : decode cX2_append 28 = .ok (.invokevirtual 26, 3) := by decide +kernel
theorem dX2_append_31 : decode cX2_append 31 = .ok (.return_, 1) := by decide +kernel
theorem dX2_shorten_0 : decode cX2_shorten 0 = .ok (.iload_n 1, 1) := by decide +kernel
theorem dX2_shorten_1 : decode cX2_shorten 1 = .ok (.ifCond .lt 20, 3) := by decide +kernel
theorem dX2_shorten_4 : decode cX2_shorten 4 = .ok (.iload_n 1, 1) := by decide +kernel
theorem dX2_shorten_5 : decode cX2_shorten 5 = .ok (.aload_n 0, 1) := by decide +kernel
theorem dX2_shorten_6 : decode cX2_shorten 6 = .ok (.getfield 19, 3) := by decide +kernel
theorem dX2_shorten_9 : decode cX2_shorten 9 = .ok (.if_icmp .gt 12, 3) := by decide +kernel
theorem dX2_shorten_12 : decode cX2_shorten 12 = .ok (.aload_n 0, 1) := by decide +kernel
theorem dX2_shorten_13 : decode cX2_shorten 13 = .ok (.iload_n 1, 1) := by decide +kernel
theorem dX2_shorten_14 : decode cX2_shorten 14 = .ok (.putfield 19, 3) := by decide +kernel
theorem dX2_shorten_17 : decode cX2_shorten 17 = .ok (.aload_n 0, 1) := by decide +kernel
theorem dX2_shorten_18 : decode cX2_shorten 18 = .ok (.invokevirtual 26, 3) := by decide +kernel
theorem dX2_shorten_21 : decode cX2_shorten 21 = .ok (.return_, 1) := by decide +kernel
theorem dX2_dropLastVerse_0 : decode cX2_dropLastVerse 0 = .ok (.aload_n 0, 1) := by decide +kernel
theorem dX2_dropLastVerse_1 : decode cX2_dropLastVerse 1 = .ok (.aload_n 0, 1) := by decide +kernel
theorem dX2_dropLastVerse_2 : decode cX2_dropLastVerse 2 = .ok (.getfield 29, 3) := by decide +kernel
theorem dX2_dropLastVerse_5 : decode cX2_dropLastVerse 5 = .ok (.iconst 1, 1) := by decide +kernel
theorem dX2_dropLastVerse_6 : decode cX2_dropLastVerse 6 = .ok (.if_icmp .le 16, 3) := by decide +kernel
theorem dX2_dropLastVerse_9 : decode cX2_dropLastVerse 9 = .ok (.iconst 5, 1) := by decide +kernel
theorem dX2_dropLastVerse_10 : decode cX2_dropLastVerse 10 = .ok (.aload_n 0, 1) := by decide +kernel
theorem dX2_dropLastVerse_11 : decode cX2_dropLastVerse 11 = .ok (.getfield 29, 3) := by decide +kernel
theorem dX2_dropLastVerse_14 : decode cX2_dropLastVerse 14 = .ok (.iconst 1, 1) := by decide +kernel
theorem dX2_dropLastVerse_15 : decode cX2_dropLastVerse 15 = .ok (.isub, 1) := by decide +kernel
theorem dX2_dropLastVerse_16 : decode cX2_dropLastVerse 16 = .ok (.imul, 1) := by decide +kernel
theorem dX2_dropLastVerse_17 : decode cX2_dropLastVerse 17 = .ok (.iconst 1, 1) := by decide +kernel
theorem dX2_dropLastVerse_18 : decode cX2_dropLastVerse 18 = .ok (.isub, 1) := by decide +kernel
theorem dX2_dropLastVerse_19 : decode cX2_dropLastVerse 19 = .ok (.goto 4, 3) := by decide +kernel
theorem dX2_dropLastVerse_22 : decode cX2_dropLastVerse 22 = .ok (.iconst 0, 1) := by decide +kernel
theorem dX2_dropLastVerse_23 : decode cX2_dropLastVerse 23 = .ok (.invokevirtual 32, 3) := by decide +kernel
theorem dX2_dropLastVerse_26 : decode cX2_dropLastVerse 26 = .ok (.return_, 1) := by decide +kernel
theorem dX2_settle_0 : decode cX2_settle 0 = .ok (.aload_n 0, 1) := by decide +kernel
theorem dX2_settle_1 : decode cX2_settle 1 = .ok (.aload_n 0, 1) := by decide +kernel
theorem dX2_settle_2 : decode cX2_settle 2 = .ok (.invokevirtual 36, 3) := by decide +kernel
theorem dX2_settle_5 : decode cX2_settle 5 = .ok (.putfield 9, 3) := by decide +kernel
theorem dX2_settle_8 : decode cX2_settle 8 = .ok (.aload_n 0, 1) := by decide +kernel
theorem dX2_settle_9 : decode cX2_settle 9 = .ok (.aload_n 0, 1) := by decide +kernel
theorem dX2_settle_10 : decode cX2_settle 10 = .ok (.getfield 9, 3) := by decide +kernel
theorem dX2_settle_13 : decode cX2_settle 13 = .ok (.iconst (-1), 1) := by decide +kernel
theorem dX2_settle_14 : decode cX2_settle 14 = .ok (.if_icmp .ne 14, 3) := by decide +kernel
theorem dX2_settle_17 : decode cX2_settle 17 = .ok (.aload_n 0, 1) := by decide +kernel
theorem dX2_settle_18 : decode cX2_settle 18 = .ok (.getfield 19, 3) := by decide +kernel
theorem dX2_settle_21 : decode cX2_settle 21 = .ok (.iconst 1, 1) := by decide +kernel
theorem dX2_settle_22 : decode cX2_settle 22 = .ok (.iadd, 1) := by decide +kernel
theorem dX2_settle_23 : decode cX2_settle 23 = .ok (.iconst 5, 1) := by decide +kernel
theorem dX2_settle_24 : decode cX2_settle 24 = .ok (.idiv, 1) := by decide +kernel
theorem dX2_settle_25 : decode cX2_settle 25 = .ok (.goto 4, 3) := by decide +kernel
theorem dX2_settle_28 : decode cX2_settle 28 = .ok (.iconst 0, 1) := by decide +kernel
theorem dX2_settle_29 : decode cX2_settle 29 = .ok (.putfield 29, 3) := by decide +kernel
theorem dX2_settle_32 : decode cX2_settle 32 = .ok (.return_, 1) := by decide +kernel
theorem dX2_firstFlaw_0 : decode cX2_firstFlaw 0 = .ok (.iconst 0, 1) := by decide +kernel
theorem dX2_firstFlaw_1 : decode cX2_firstFlaw 1 = .ok (.istore_n 1, 1) := by decide +kernel
theorem dX2_firstFlaw_2 : decode cX2_firstFlaw 2 = .ok (.iload_n 1, 1) := by decide +kernel
theorem dX2_firstFlaw_3 : decode cX2_firstFlaw 3 = .ok (.aload_n 0, 1) := by decide +kernel
theorem dX2_firstFlaw_4 : decode cX2_firstFlaw 4 = .ok (.getfield 19, 3) := by decide +kernel
theorem dX2_firstFlaw_7 : decode cX2_firstFlaw 7 = .ok (.if_icmp .ge 26, 3) := by decide +kernel
theorem dX2_firstFlaw_10 : decode cX2_firstFlaw 10 = .ok (.aload_n 0, 1) := by decide +kernel
theorem dX2_firstFlaw_11 : decode cX2_firstFlaw 11 = .ok (.getfield 15, 3) := by decide +kernel
theorem dX2_firstFlaw_14 : decode cX2_firstFlaw 14 = .ok (.iload_n 1, 1) := by decide +kernel
theorem dX2_firstFlaw_15 : decode cX2_firstFlaw 15 = .ok (.iaload, 1) := by decide +kernel
theorem dX2_firstFlaw_16 : decode cX2_firstFlaw 16 = .ok (.iload_n 1, 1) := by decide +kernel
theorem dX2_firstFlaw_17 : decode cX2_firstFlaw 17 = .ok (.iconst 5, 1) := by decide +kernel
theorem dX2_firstFlaw_18 : decode cX2_firstFlaw 18 = .ok (.irem, 1) := by decide +kernel
theorem dX2_firstFlaw_19 : decode cX2_firstFlaw 19 = .ok (.invokestatic 40, 3) := by decide +kernel
theorem dX2_firstFlaw_22 : decode cX2_firstFlaw 22 = .ok (.ifCond .ne 5, 3) := by decide +kernel
theorem dX2_firstFlaw_25 : decode cX2_firstFlaw 25 = .ok (.iload_n 1, 1) := by decide +kernel
theorem dX2_firstFlaw_26 : decode cX2_firstFlaw 26 = .ok (.ireturn, 1) := by decide +kernel
theorem dX2_firstFlaw_27 : decode cX2_firstFlaw 27 = .ok (.iinc 1 1, 3) := by decide +kernel
theorem dX2_firstFlaw_30 : decode cX2_firstFlaw 30 = .ok (.goto (-28), 3) := by decide +kernel
theorem dX2_firstFlaw_33 : decode cX2_firstFlaw 33 = .ok (.aload_n 0, 1) := by decide +kernel
theorem dX2_firstFlaw_34 : decode cX2_firstFlaw 34 = .ok (.getfield 19, 3) := by decide +kernel
theorem dX2_firstFlaw_37 : decode cX2_firstFlaw 37 = .ok (.ifCond .eq 13, 3) := by decide +kernel
theorem dX2_firstFlaw_40 : decode cX2_firstFlaw 40 = .ok (.aload_n 0, 1) := by decide +kernel
theorem dX2_firstFlaw_41 : decode cX2_firstFlaw 41 = .ok (.getfield 19, 3) := by decide +kernel
theorem dX2_firstFlaw_44 : decode cX2_firstFlaw 44 = .ok (.iconst 5, 1) := by decide +kernel
theorem dX2_firstFlaw_45 : decode cX2_firstFlaw 45 = .ok (.irem, 1) := by decide +kernel
theorem dX2_firstFlaw_46 : decode cX2_firstFlaw 46 = .ok (.iconst 4, 1) := by decide +kernel
theorem dX2_firstFlaw_47 : decode cX2_firstFlaw 47 = .ok (.if_icmp .ne 7, 3) := by decide +kernel
theorem dX2_firstFlaw_50 : decode cX2_firstFlaw 50 = .ok (.iconst (-1), 1) := by decide +kernel
theorem dX2_firstFlaw_51 : decode cX2_firstFlaw 51 = .ok (.goto 7, 3) := by decide +kernel
theorem dX2_firstFlaw_54 : decode cX2_firstFlaw 54 = .ok (.aload_n 0, 1) := by decide +kernel
theorem dX2_firstFlaw_55 : decode cX2_firstFlaw 55 = .ok (.getfield 19, 3) := by decide +kernel
theorem dX2_firstFlaw_58 : decode cX2_firstFlaw 58 = .ok (.ireturn, 1) := by decide +kernel
theorem dX2_fits_0 : decode cX2_fits 0 = .ok (.iload_n 1, 1) := by decide +kernel
theorem dX2_fits_1 : decode cX2_fits 1 = .ok (.tableswitch 79 0 4 #[35, 79, 49, 79, 67], 35) := by decide +kernel
theorem dX2_fits_36 : decode cX2_fits 36 = .ok (.iload_n 0, 1) := by decide +kernel
theorem dX2_fits_37 : decode cX2_fits 37 = .ok (.invokestatic 44, 3) := by decide +kernel
theorem dX2_fits_40 : decode cX2_fits 40 = .ok (.iconst (-1), 1) := by decide +kernel
theorem dX2_fits_41 : decode cX2_fits 41 = .ok (.if_icmp .eq 7, 3) := by decide +kernel
theorem dX2_fits_44 : decode cX2_fits 44 = .ok (.iconst 1, 1) := by decide +kernel
theorem dX2_fits_45 : decode cX2_fits 45 = .ok (.goto 4, 3) := by decide +kernel
theorem dX2_fits_48 : decode cX2_fits 48 = .ok (.iconst 0, 1) := by decide +kernel
theorem dX2_fits_49 : decode cX2_fits 49 = .ok (.ireturn, 1) := by decide +kernel
theorem dX2_fits_50 : decode cX2_fits 50 = .ok (.iload_n 0, 1) := by decide +kernel
theorem dX2_fits_51 : decode cX2_fits 51 = .ok (.bipush 49, 2) := by decide +kernel
theorem dX2_fits_53 : decode cX2_fits 53 = .ok (.if_icmp .lt 13, 3) := by decide +kernel
theorem dX2_fits_56 : decode cX2_fits 56 = .ok (.iload_n 0, 1) := by decide +kernel
theorem dX2_fits_57 : decode cX2_fits 57 = .ok (.bipush 57, 2) := by decide +kernel
theorem dX2_fits_59 : decode cX2_fits 59 = .ok (.if_icmp .gt 7, 3) := by decide +kernel
theorem dX2_fits_62 : decode cX2_fits 62 = .ok (.iconst 1, 1) := by decide +kernel
theorem dX2_fits_63 : decode cX2_fits 63 = .ok (.goto 4, 3) := by decide +kernel
theorem dX2_fits_66 : decode cX2_fits 66 = .ok (.iconst 0, 1) := by decide +kernel
theorem dX2_fits_67 : decode cX2_fits 67 = .ok (.ireturn, 1) := by decide +kernel
theorem dX2_fits_68 : decode cX2_fits 68 = .ok (.iload_n 0, 1) := by decide +kernel
theorem dX2_fits_69 : decode cX2_fits 69 = .ok (.bipush 59, 2) := by decide +kernel
theorem dX2_fits_71 : decode cX2_fits 71 = .ok (.if_icmp .ne 7, 3) := by decide +kernel
theorem dX2_fits_74 : decode cX2_fits 74 = .ok (.iconst 1, 1) := by decide +kernel
theorem dX2_fits_75 : decode cX2_fits 75 = .ok (.goto 4, 3) := by decide +kernel
theorem dX2_fits_78 : decode cX2_fits 78 = .ok (.iconst 0, 1) := by decide +kernel
theorem dX2_fits_79 : decode cX2_fits 79 = .ok (.ireturn, 1) := by decide +kernel
theorem dX2_fits_80 : decode cX2_fits 80 = .ok (.iload_n 0, 1) := by decide +kernel
theorem dX2_fits_81 : decode cX2_fits 81 = .ok (.bipush 48, 2) := by decide +kernel
theorem dX2_fits_83 : decode cX2_fits 83 = .ok (.if_icmp .lt 13, 3) := by decide +kernel
theorem dX2_fits_86 : decode cX2_fits 86 = .ok (.iload_n 0, 1) := by decide +kernel
theorem dX2_fits_87 : decode cX2_fits 87 = .ok (.bipush 57, 2) := by decide +kernel
theorem dX2_fits_89 : decode cX2_fits 89 = .ok (.if_icmp .gt 7, 3) := by decide +kernel
theorem dX2_fits_92 : decode cX2_fits 92 = .ok (.iconst 1, 1) := by decide +kernel
theorem dX2_fits_93 : decode cX2_fits 93 = .ok (.goto 4, 3) := by decide +kernel
theorem dX2_fits_96 : decode cX2_fits 96 = .ok (.iconst 0, 1) := by decide +kernel
theorem dX2_fits_97 : decode cX2_fits 97 = .ok (.ireturn, 1) := by decide +kernel
theorem dX2_kindBy_0 : decode cX2_kindBy 0 = .ok (.iload_n 0, 1) := by decide +kernel
theorem dX2_kindBy_1 : decode cX2_kindBy 1 = .ok (.lookupswitch 51 #[(99, 45), (108, 47), (112, 43), (114, 49)], 43) := by decide +kernel
theorem dX2_kindBy_44 : decode cX2_kindBy 44 = .ok (.iconst 0, 1) := by decide +kernel
theorem dX2_kindBy_45 : decode cX2_kindBy 45 = .ok (.ireturn, 1) := by decide +kernel
theorem dX2_kindBy_46 : decode cX2_kindBy 46 = .ok (.iconst 1, 1) := by decide +kernel
theorem dX2_kindBy_47 : decode cX2_kindBy 47 = .ok (.ireturn, 1) := by decide +kernel
theorem dX2_kindBy_48 : decode cX2_kindBy 48 = .ok (.iconst 2, 1) := by decide +kernel
theorem dX2_kindBy_49 : decode cX2_kindBy 49 = .ok (.ireturn, 1) := by decide +kernel
theorem dX2_kindBy_50 : decode cX2_kindBy 50 = .ok (.iconst 3, 1) := by decide +kernel
theorem dX2_kindBy_51 : decode cX2_kindBy 51 = .ok (.ireturn, 1) := by decide +kernel
theorem dX2_kindBy_52 : decode cX2_kindBy 52 = .ok (.iconst (-1), 1) := by decide +kernel
theorem dX2_kindBy_53 : decode cX2_kindBy 53 = .ok (.ireturn, 1) := by decide +kernel
theorem dX2_kindOf_0 : decode cX2_kindOf 0 = .ok (.iload_n 1, 1) := by decide +kernel
theorem dX2_kindOf_1 : decode cX2_kindOf 1 = .ok (.ifCond .lt 25, 3) := by decide +kernel
theorem dX2_kindOf_4 : decode cX2_kindOf 4 = .ok (.iload_n 1, 1) := by decide +kernel
theorem dX2_kindOf_5 : decode cX2_kindOf 5 = .ok (.aload_n 0, 1) := by decide +kernel
theorem dX2_kindOf_6 : decode cX2_kindOf 6 = .ok (.getfield 29, 3) := by decide +kernel
theorem dX2_kindOf_9 : decode cX2_kindOf 9 = .ok (.if_icmp .ge 17, 3) := by decide +kernel
theorem dX2_kindOf_12 : decode cX2_kindOf 12 = .ok (.aload_n 0, 1) := by decide +kernel
theorem dX2_kindOf_13 : decode cX2_kindOf 13 = .ok (.getfield 15, 3) := by decide +kernel
theorem dX2_kindOf_16 : decode cX2_kindOf 16 = .ok (.iconst 5, 1) := by decide +kernel
theorem dX2_kindOf_17 : decode cX2_kindOf 17 = .ok (.iload_n 1, 1) := by decide +kernel
theorem dX2_kindOf_18 : decode cX2_kindOf 18 = .ok (.imul, 1) := by decide +kernel
theorem dX2_kindOf_19 : decode cX2_kindOf 19 = .ok (.iaload, 1) := by decide +kernel
theorem dX2_kindOf_20 : decode cX2_kindOf 20 = .ok (.invokestatic 44, 3) := by decide +kernel
theorem dX2_kindOf_23 : decode cX2_kindOf 23 = .ok (.goto 4, 3) := by decide +kernel
theorem dX2_kindOf_26 : decode cX2_kindOf 26 = .ok (.iconst (-1), 1) := by decide +kernel
theorem dX2_kindOf_27 : decode cX2_kindOf 27 = .ok (.ireturn, 1) := by decide +kernel
theorem dX2_figure_0 : decode cX2_figure 0 = .ok (.iload_n 1, 1) := by decide +kernel
theorem dX2_figure_1 : decode cX2_figure 1 = .ok (.ifCond .lt 20, 3) := by decide +kernel
theorem dX2_figure_4 : decode cX2_figure 4 = .ok (.iload_n 1, 1) := by decide +kernel
theorem dX2_figure_5 : decode cX2_figure 5 = .ok (.aload_n 0, 1) := by decide +kernel
theorem dX2_figure_6 : decode cX2_figure 6 = .ok (.getfield 29, 3) := by decide +kernel
theorem dX2_figure_9 : decode cX2_figure 9 = .ok (.if_icmp .ge 12, 3) := by decide +kernel
theorem dX2_figure_12 : decode cX2_figure 12 = .ok (.iload_n 2, 1) := by decide +kernel
theorem dX2_figure_13 : decode cX2_figure 13 = .ok (.ifCond .lt 8, 3) := by decide +kernel
theorem dX2_figure_16 : decode cX2_figure 16 = .ok (.iload_n 2, 1) := by decide +kernel
theorem dX2_figure_17 : decode cX2_figure 17 = .ok (.iconst 2, 1) := by decide +kernel
theorem dX2_figure_18 : decode cX2_figure 18 = .ok (.if_icmp .le 5, 3) := by decide +kernel
theorem dX2_figure_21 : decode cX2_figure 21 = .ok (.iconst 0, 1) := by decide +kernel
theorem dX2_figure_22 : decode cX2_figure 22 = .ok (.ireturn, 1) := by decide +kernel
theorem dX2_figure_23 : decode cX2_figure 23 = .ok (.aload_n 0, 1) := by decide +kernel
theorem dX2_figure_24 : decode cX2_figure 24 = .ok (.getfield 15, 3) := by decide +kernel
theorem dX2_figure_27 : decode cX2_figure 27 = .ok (.iconst 5, 1) := by decide +kernel
theorem dX2_figure_28 : decode cX2_figure 28 = .ok (.iload_n 1, 1) := by decide +kernel
theorem dX2_figure_29 : decode cX2_figure 29 = .ok (.imul, 1) := by decide +kernel
theorem dX2_figure_30 : decode cX2_figure 30 = .ok (.iconst 1, 1) := by decide +kernel
theorem dX2_figure_31 : decode cX2_figure 31 = .ok (.iadd, 1) := by decide +kernel
theorem dX2_figure_32 : decode cX2_figure 32 = .ok (.iload_n 2, 1) := by decide +kernel
theorem dX2_figure_33 : decode cX2_figure 33 = .ok (.iadd, 1) := by decide +kernel
theorem dX2_figure_34 : decode cX2_figure 34 = .ok (.iaload, 1) := by decide +kernel
theorem dX2_figure_35 : decode cX2_figure 35 = .ok (.bipush 48, 2) := by decide +kernel
theorem dX2_figure_37 : decode cX2_figure 37 = .ok (.isub, 1) := by decide +kernel
theorem dX2_figure_38 : decode cX2_figure 38 = .ok (.ireturn, 1) := by decide +kernel
theorem dX3_init_0 : decode cX3_init 0 = .ok (.aload_n 0, 1) := by decide +kernel
theorem dX3_init_1 : decode cX3_init 1 = .ok (.invokespecial 3, 3) := by decide +kernel
theorem dX3_init_4 : decode cX3_init 4 = .ok (.aload_n 0, 1) := by decide +kernel
theorem dX3_init_5 : decode cX3_init 5 = .ok (.bipush 60, 2) := by decide +kernel
theorem dX3_init_7 : decode cX3_init 7 = .ok (.newarray .int, 2) := by decide +kernel
theorem dX3_init_9 : decode cX3_init 9 = .ok (.putfield 9, 3) := by decide +kernel
theorem dX3_init_12 : decode cX3_init 12 = .ok (.aload_n 0, 1) := by decide +kernel
theorem dX3_init_13 : decode cX3_init 13 = .ok (.iconst 1, 1) := by decide +kernel
theorem dX3_init_14 : decode cX3_init 14 = .ok (.putfield 15, 3) := by decide +kernel
theorem dX3_init_17 : decode cX3_init 17 = .ok (.return_, 1) := by decide +kernel
theorem dX3_renew_0 : decode cX3_renew 0 = .ok (.aload_n 0, 1) := by decide +kernel
theorem dX3_renew_1 : decode cX3_renew 1 = .ok (.iconst 0, 1) := by decide +kernel
theorem dX3_renew_2 : decode cX3_renew 2 = .ok (.putfield 15, 3) := by decide +kernel
theorem dX3_renew_5 : decode cX3_renew 5 = .ok (.aload_n 0, 1) := by decide +kernel
theorem dX3_renew_6 : decode cX3_renew 6 = .ok (.iload_n 1, 1) := by decide +kernel
theorem dX3_renew_7 : decode cX3_renew 7 = .ok (.putfield 19, 3) := by decide +kernel
theorem dX3_renew_10 : decode cX3_renew 10 = .ok (.aload_n 0, 1) := by decide +kernel
theorem dX3_renew_11 : decode cX3_renew 11 = .ok (.iload_n 2, 1) := by decide +kernel
theorem dX3_renew_12 : decode cX3_renew 12 = .ok (.putfield 23, 3) := by decide +kernel
theorem dX3_renew_15 : decode cX3_renew 15 = .ok (.iconst 0, 1) := by decide +kernel
theorem dX3_renew_16 : decode cX3_renew 16 = .ok (.istore_n 3, 1) := by decide +kernel
theorem dX3_renew_17 : decode cX3_renew 17 = .ok (.iload_n 3, 1) := by decide +kernel
theorem dX3_renew_18 : decode cX3_renew 18 = .ok (.bipush 60, 2) := by decide +kernel
theorem dX3_renew_20 : decode cX3_renew 20 = .ok (.if_icmp .ge 16, 3) := by decide +kernel
theorem dX3_renew_23 : decode cX3_renew 23 = .ok (.aload_n 0, 1) := by decide +kernel
theorem dX3_renew_24 : decode cX3_renew 24 = .ok (.getfield 9, 3) := by decide +kernel
theorem dX3_renew_27 : decode cX3_renew 27 = .ok (.iload_n 3, 1) := by decide +kernel
theorem dX3_renew_28 : decode cX3_renew 28 = .ok (.iconst 0, 1) := by decide +kernel
theorem dX3_renew_29 : decode cX3_renew 29 = .ok (.iastore, 1) := by decide +kernel
theorem dX3_renew_30 : decode cX3_renew 30 = .ok (.iinc 3 1, 3) := by decide +kernel
theorem dX3_renew_33 : decode cX3_renew 33 = .ok (.goto (-16), 3) := by decide +kernel
theorem dX3_renew_36 : decode cX3_renew 36 = .ok (.return_, 1) := by decide +kernel
theorem dX3_hasItem_0 : decode cX3_hasItem 0 = .ok (.iload_n 1, 1) := by decide +kernel
theorem dX3_hasItem_1 : decode cX3_hasItem 1 = .ok (.ifCond .lt 21, 3) := by decide +kernel
theorem dX3_hasItem_4 : decode cX3_hasItem 4 = .ok (.iload_n 1, 1) := by decide +kernel
theorem dX3_hasItem_5 : decode cX3_hasItem 5 = .ok (.aload_n 0, 1) := by decide +kernel
theorem dX3_hasItem_6 : decode cX3_hasItem 6 = .ok (.getfield 23, 3) := by decide +kernel
theorem dX3_hasItem_9 : decode cX3_hasItem 9 = .ok (.if_icmp .ge 13, 3) := by decide +kernel
theorem dX3_hasItem_12 : decode cX3_hasItem 12 = .ok (.iload_n 1, 1) := by decide +kernel
theorem dX3_hasItem_13 : decode cX3_hasItem 13 = .ok (.bipush 60, 2) := by decide +kernel
theorem dX3_hasItem_15 : decode cX3_hasItem 15 = .ok (.if_icmp .ge 7, 3) := by decide +kernel
theorem dX3_hasItem_18 : decode cX3_hasItem 18 = .ok (.iconst 1, 1) := by decide +kernel
theorem dX3_hasItem_19 : decode cX3_hasItem 19 = .ok (.goto 4, 3) := by decide +kernel
theorem dX3_hasItem_22 : decode cX3_hasItem 22 = .ok (.iconst 0, 1) := by decide +kernel
theorem dX3_hasItem_23 : decode cX3_hasItem 23 = .ok (.ireturn, 1) := by decide +kernel
theorem dX3_hasSpan_0 : decode cX3_hasSpan 0 = .ok (.iload_n 1, 1) := by decide +kernel
theorem dX3_hasSpan_1 : decode cX3_hasSpan 1 = .ok (.ifCond .lt 29, 3) := by decide +kernel
theorem dX3_hasSpan_4 : decode cX3_hasSpan 4 = .ok (.iload_n 2, 1) := by decide +kernel
theorem dX3_hasSpan_5 : decode cX3_hasSpan 5 = .ok (.ifCond .lt 25, 3) := by decide +kernel
theorem dX3_hasSpan_8 : decode cX3_hasSpan 8 = .ok (.iload_n 1, 1) := by decide +kernel
theorem dX3_hasSpan_9 : decode cX3_hasSpan 9 = .ok (.aload_n 0, 1) := by decide +kernel
theorem dX3_hasSpan_10 : decode cX3_hasSpan 10 = .ok (.getfield 23, 3) := by decide +kernel
theorem dX3_hasSpan_13 : decode cX3_hasSpan 13 = .ok (.if_icmp .gt 17, 3) := by decide +kernel
theorem dX3_hasSpan_16 : decode cX3_hasSpan 16 = .ok (.iload_n 2, 1) := by decide +kernel
theorem dX3_hasSpan_17 : decode cX3_hasSpan 17 = .ok (.aload_n 0, 1) := by decide +kernel
theorem dX3_hasSpan_18 : decode cX3_hasSpan 18 = .ok (.getfield 23, 3) := by decide +kernel
theorem dX3_hasSpan_21 : decode cX3_hasSpan 21 = .ok (.iload_n 1, 1) := by decide +kernel
theorem dX3_hasSpan_22 : decode cX3_hasSpan 22 = .ok (.isub, 1) := by decide +kernel
theorem dX3_hasSpan_23 : decode cX3_hasSpan 23 = .ok (.if_icmp .gt 7, 3) := by decide +kernel
theorem dX3_hasSpan_26 : decode cX3_hasSpan 26 = .ok (.iconst 1, 1) := by decide +kernel
theorem dX3_hasSpan_27 : decode cX3_hasSpan 27 = .ok (.goto 4, 3) := by decide +kernel
theorem dX3_hasSpan_30 : decode cX3_hasSpan 30 = .ok (.iconst 0, 1) := by decide +kernel
theorem dX3_hasSpan_31 : decode cX3_hasSpan 31 = .ok (.ireturn, 1) := by decide +kernel
theorem dX3_item_0 : decode cX3_item 0 = .ok (.aload_n 0, 1) := by decide +kernel
theorem dX3_item_1 : decode cX3_item 1 = .ok (.iload_n 1, 1) := by decide +kernel
theorem dX3_item_2 : decode cX3_item 2 = .ok (.invokevirtual 26, 3) := by decide +kernel
theorem dX3_item_5 : decode cX3_item 5 = .ok (.ifCond .eq 12, 3) := by decide +kernel
theorem dX3_item_8 : decode cX3_item 8 = .ok (.aload_n 0, 1) := by decide +kernel
theorem dX3_item_9 : decode cX3_item 9 = .ok (.getfield 9, 3) := by decide +kernel
theorem dX3_item_12 : decode cX3_item 12 = .ok (.iload_n 1, 1) := by decide +kernel
theorem dX3_item_13 : decode cX3_item 13 = .ok (.iaload, 1) := by decide +kernel
theorem dX3_item_14 : decode cX3_item 14 = .ok (.goto 4, 3) := by decide +kernel
theorem dX3_item_17 : decode cX3_item 17 = .ok (.iconst 0, 1) := by decide +kernel
theorem dX3_item_18 : decode cX3_item 18 = .ok (.ireturn, 1) := by decide +kernel
theorem dX3_store_0 : decode cX3_store 0 = .ok (.aload_n 0, 1) := by decide +kernel
theorem dX3_store_1 : decode cX3_store 1 = .ok (.iload_n 1, 1) := by decide +kernel
theorem dX3_store_2 : decode cX3_store 2 = .ok (.invokevirtual 26, 3) := by decide +kernel
theorem dX3_store_5 : decode cX3_store 5 = .ok (.ifCond .eq 35, 3) := by decide +kernel
theorem dX3_store_8 : decode cX3_store 8 = .ok (.aload_n 0, 1) := by decide +kernel
theorem dX3_store_9 : decode cX3_store 9 = .ok (.getfield 9, 3) := by decide +kernel
theorem dX3_store_12 : decode cX3_store 12 = .ok (.iload_n 1, 1) := by decide +kernel
theorem dX3_store_13 : decode cX3_store 13 = .ok (.aload_n 0, 1) := by decide +kernel
theorem dX3_store_14 : decode cX3_store 14 = .ok (.getfield 19, 3) := by decide +kernel
theorem dX3_store_17 : decode cX3_store 17 = .ok (.ifCond .ne 8, 3) := by decide +kernel
theorem dX3_store_20 : decode cX3_store 20 = .ok (.iload_n 2, 1) := by decide +kernel
theorem dX3_store_21 : decode cX3_store 21 = .ok (.i2b, 1) := by decide +kernel
theorem dX3_store_22 : decode cX3_store 22 = .ok (.goto 17, 3) := by decide +kernel
theorem dX3_store_25 : decode cX3_store 25 = .ok (.aload_n 0, 1) := by decide +kernel
theorem dX3_store_26 : decode cX3_store 26 = .ok (.getfield 19, 3) := by decide +kernel
theorem dX3_store_29 : decode cX3_store 29 = .ok (.iconst 1, 1) := by decide +kernel
theorem dX3_store_30 : decode cX3_store 30 = .ok (.if_icmp .ne 8, 3) := by decide +kernel
theorem dX3_store_33 : decode cX3_store 33 = .ok (.iload_n 2, 1) := by decide +kernel
theorem dX3_store_34 : decode cX3_store 34 = .ok (.i2s, 1) := by decide +kernel
theorem dX3_store_35 : decode cX3_store 35 = .ok (.goto 4, 3) := by decide +kernel
theorem dX3_store_38 : decode cX3_store 38 = .ok (.iload_n 2, 1) := by decide +kernel
theorem dX3_store_39 : decode cX3_store 39 = .ok (.iastore, 1) := by decide +kernel
theorem dX3_store_40 : decode cX3_store 40 = .ok (.return_, 1) := by decide +kernel
theorem dX4_init_0 : decode cX4_init 0 = .ok (.aload_n 0, 1) := by decide +kernel
theorem dX4_init_1 : decode cX4_init 1 = .ok (.invokespecial 3, 3) := by decide +kernel
theorem dX4_init_4 : decode cX4_init 4 = .ok (.aload_n 0, 1) := by decide +kernel
theorem dX4_init_5 : decode cX4_init 5 = .ok (.bipush 8, 2) := by decide +kernel
theorem dX4_init_7 : decode cX4_init 7 = .ok (.newarray .int, 2) := by decide +kernel
theorem dX4_init_9 : decode cX4_init 9 = .ok (.putfield 11, 3) := by decide +kernel
theorem dX4_init_12 : decode cX4_init 12 = .ok (.aload_n 0, 1) := by decide +kernel
theorem dX4_init_13 : decode cX4_init 13 = .ok (.bipush 8, 2) := by decide +kernel
theorem dX4_init_15 : decode cX4_init 15 = .ok (.newarray .int, 2) := by decide +kernel
theorem dX4_init_17 : decode cX4_init 17 = .ok (.putfield 15, 3) := by decide +kernel
theorem dX4_init_20 : decode cX4_init 20 = .ok (.return_, 1) := by decide +kernel
theorem dX4_mayBe_0 : decode cX4_mayBe 0 = .ok (.iload_n 0, 1) := by decide +kernel
theorem dX4_mayBe_1 : decode cX4_mayBe 1 = .ok (.ifCond .lt 25, 3) := by decide +kernel
theorem dX4_mayBe_4 : decode cX4_mayBe 4 = .ok (.iload_n 0, 1) := by decide +kernel
theorem dX4_mayBe_5 : decode cX4_mayBe 5 = .ok (.sipush 299, 3) := by decide +kernel
theorem dX4_mayBe_8 : decode cX4_mayBe 8 = .ok (.if_icmp .gt 18, 3) := by decide +kernel
theorem dX4_mayBe_11 : decode cX4_mayBe 11 = .ok (.iload_n 1, 1) := by decide +kernel
theorem dX4_mayBe_12 : decode cX4_mayBe 12 = .ok (.iconst (-1), 1) := by decide +kernel
theorem dX4_mayBe_13 : decode cX4_mayBe 13 = .ok (.if_icmp .lt 13, 3) := by decide +kernel
theorem dX4_mayBe_16 : decode cX4_mayBe 16 = .ok (.iload_n 1, 1) := by decide +kernel
theorem dX4_mayBe_17 : decode cX4_mayBe 17 = .ok (.bipush 12, 2) := by decide +kernel
theorem dX4_mayBe_19 : decode cX4_mayBe 19 = .ok (.if_icmp .ge 7, 3) := by decide +kernel
theorem dX4_mayBe_22 : decode cX4_mayBe 22 = .ok (.iconst 1, 1) := by decide +kernel
theorem dX4_mayBe_23 : decode cX4_mayBe 23 = .ok (.goto 4, 3) := by decide +kernel
theorem dX4_mayBe_26 : decode cX4_mayBe 26 = .ok (.iconst 0, 1) := by decide +kernel
theorem dX4_mayBe_27 : decode cX4_mayBe 27 = .ok (.ireturn, 1) := by decide +kernel
theorem dX4_isFull_0 : decode cX4_isFull 0 = .ok (.aload_n 0, 1) := by decide +kernel
theorem dX4_isFull_1 : decode cX4_isFull 1 = .ok (.getfield 18, 3) := by decide +kernel
theorem dX4_isFull_4 : decode cX4_isFull 4 = .ok (.bipush 8, 2) := by decide +kernel
theorem dX4_isFull_6 : decode cX4_isFull 6 = .ok (.if_icmp .lt 7, 3) := by decide +kernel
theorem dX4_isFull_9 : decode cX4_isFull 9 = .ok (.iconst 1, 1) := by decide +kernel
theorem dX4_isFull_10 : decode cX4_isFull 10 = .ok (.goto 4, 3) := by decide +kernel
theorem dX4_isFull_13 : decode cX4_isFull 13 = .ok (.iconst 0, 1) := by decide +kernel
theorem dX4_isFull_14 : decode cX4_isFull 14 = .ok (.ireturn, 1) := by decide +kernel
theorem dX4_add_0 : decode cX4_add 0 = .ok (.aload_n 0, 1) := by decide +kernel
theorem dX4_add_1 : decode cX4_add 1 = .ok (.invokevirtual 22, 3) := by decide +kernel
theorem dX4_add_4 : decode cX4_add 4 = .ok (.ifCond .ne 33, 3) := by decide +kernel
theorem dX4_add_7 : decode cX4_add 7 = .ok (.aload_n 0, 1) := by decide +kernel
theorem dX4_add_8 : decode cX4_add 8 = .ok (.getfield 11, 3) := by decide +kernel
theorem dX4_add_11 : decode cX4_add 11 = .ok (.aload_n 0, 1) := by decide +kernel
theorem dX4_add_12 : decode cX4_add 12 = .ok (.getfield 18, 3) := by decide +kernel
theorem dX4_add_15 : decode cX4_add 15 = .ok (.iload_n 1, 1) := by decide +kernel
theorem dX4_add_16 : decode cX4_add 16 = .ok (.iastore, 1) := by decide +kernel
theorem dX4_add_17 : decode cX4_add 17 = .ok (.aload_n 0, 1) := by decide +kernel
theorem dX4_add_18 : decode cX4_add 18 = .ok (.getfield 15, 3) := by decide +kernel
theorem dX4_add_21 : decode cX4_add 21 = .ok (.aload_n 0, 1) := by decide +kernel
theorem dX4_add_22 : decode cX4_add 22 = .ok (.getfield 18, 3) := by decide +kernel
theorem dX4_add_25 : decode cX4_add 25 = .ok (.iload_n 2, 1) := by decide +kernel
theorem dX4_add_26 : decode cX4_add 26 = .ok (.iastore, 1) := by decide +kernel
theorem dX4_add_27 : decode cX4_add 27 = .ok (.aload_n 0, 1) := by decide +kernel
theorem dX4_add_28 : decode cX4_add 28 = .ok (.dup, 1) := by decide +kernel
theorem dX4_add_29 : decode cX4_add 29 = .ok (.getfield 18, 3) := by decide +kernel
theorem dX4_add_32 : decode cX4_add 32 = .ok (.iconst 1, 1) := by decide +kernel
theorem dX4_add_33 : decode cX4_add 33 = .ok (.iadd, 1) := by decide +kernel
theorem dX4_add_34 : decode cX4_add 34 = .ok (.putfield 18, 3) := by decide +kernel
theorem dX4_add_37 : decode cX4_add 37 = .ok (.return_, 1) := by decide +kernel
theorem dX4_fit_0 : decode cX4_fit 0 = .ok (.iconst 0, 1) := by decide +kernel
theorem dX4_fit_1 : decode cX4_fit 1 = .ok (.istore_n 2, 1) := by decide +kernel
theorem dX4_fit_2 : decode cX4_fit 2 = .ok (.iload_n 2, 1) := by decide +kernel
theorem dX4_fit_3 : decode cX4_fit 3 = .ok (.aload_n 0, 1) := by decide +kernel
theorem dX4_fit_4 : decode cX4_fit 4 = .ok (.getfield 18, 3) := by decide +kernel
theorem dX4_fit_7 : decode cX4_fit 7 = .ok (.if_icmp .ge 36, 3) := by decide +kernel
theorem dX4_fit_10 : decode cX4_fit 10 = .ok (.iload_n 2, 1) := by decide +kernel
theorem dX4_fit_11 : decode cX4_fit 11 = .ok (.bipush 8, 2) := by decide +kernel
theorem dX4_fit_13 : decode cX4_fit 13 = .ok (.if_icmp .ge 30, 3) := by decide +kernel
theorem dX4_fit_16 : decode cX4_fit 16 = .ok (.aload_n 1, 1) := by decide +kernel
theorem dX4_fit_17 : decode cX4_fit 17 = .ok (.aload_n 0, 1) := by decide +kernel
theorem dX4_fit_18 : decode cX4_fit 18 = .ok (.getfield 11, 3) := by decide +kernel
theorem dX4_fit_21 : decode cX4_fit 21 = .ok (.iload_n 2, 1) := by decide +kernel
theorem dX4_fit_22 : decode cX4_fit 22 = .ok (.iaload, 1) := by decide +kernel
theorem dX4_fit_23 : decode cX4_fit 23 = .ok (.invokevirtual 26, 3) := by decide +kernel
theorem dX4_fit_26 : decode cX4_fit 26 = .ok (.aload_n 0, 1) := by decide +kernel
theorem dX4_fit_27 : decode cX4_fit 27 = .ok (.getfield 15, 3) := by decide +kernel
theorem dX4_fit_30 : decode cX4_fit 30 = .ok (.iload_n 2, 1) := by decide +kernel
theorem dX4_fit_31 : decode cX4_fit 31 = .ok (.iaload, 1) := by decide +kernel
theorem dX4_fit_32 : decode cX4_fit 32 = .ok (.if_icmp .eq 5, 3) := by decide +kernel
theorem dX4_fit_35 : decode cX4_fit 35 = .ok (.iconst 0, 1) := by decide +kernel
theorem dX4_fit_36 : decode cX4_fit 36 = .ok (.ireturn, 1) := by decide +kernel
theorem dX4_fit_37 : decode cX4_fit 37 = .ok (.iinc 2 1, 3) := by decide +kernel
theorem dX4_fit_40 : decode cX4_fit 40 = .ok (.goto (-38), 3) := by decide +kernel
theorem dX4_fit_43 : decode cX4_fit 43 = .ok (.iconst 1, 1) := by decide +kernel
theorem dX4_fit_44 : decode cX4_fit 44 = .ok (.ireturn, 1) := by decide +kernel
theorem dX5_init_0 : decode cX5_init 0 = .ok (.aload_n 0, 1) := by decide +kernel
theorem dX5_init_1 : decode cX5_init 1 = .ok (.invokespecial 3, 3) := by decide +kernel
theorem dX5_init_4 : decode cX5_init 4 = .ok (.aload_n 0, 1) := by decide +kernel
theorem dX5_init_5 : decode cX5_init 5 = .ok (.iconst 5, 1) := by decide +kernel
theorem dX5_init_6 : decode cX5_init 6 = .ok (.newarray .int, 2) := by decide +kernel
theorem dX5_init_8 : decode cX5_init 8 = .ok (.putfield 9, 3) := by decide +kernel
theorem dX5_init_11 : decode cX5_init 11 = .ok (.aload_n 0, 1) := by decide +kernel
theorem dX5_init_12 : decode cX5_init 12 = .ok (.new 15, 3) := by decide +kernel
theorem dX5_init_15 : decode cX5_init 15 = .ok (.dup, 1) := by decide +kernel
theorem dX5_init_16 : decode cX5_init 16 = .ok (.invokespecial 17, 3) := by decide +kernel
theorem dX5_init_19 : decode cX5_init 19 = .ok (.putfield 18, 3) := by decide +kernel
theorem dX5_init_22 : decode cX5_init 22 = .ok (.aload_n 0, 1) := by decide +kernel
theorem dX5_init_23 : decode cX5_init 23 = .ok (.iload_n 1, 1) := by decide +kernel
theorem dX5_init_24 : decode cX5_init 24 = .ok (.anewarray 15, 3) := by decide +kernel
theorem dX5_init_27 : decode cX5_init 27 = .ok (.putfield 22, 3) := by decide +kernel
theorem dX5_init_30 : decode cX5_init 30 = .ok (.iconst 0, 1) := by decide +kernel
theorem dX5_init_31 : decode cX5_init 31 = .ok (.istore_n 2, 1) := by decide +kernel
theorem dX5_init_32 : decode cX5_init 32 = .ok (.iload_n 2, 1) := by decide +kernel
theorem dX5_init_33 : decode cX5_init 33 = .ok (.iload_n 1, 1) := by decide +kernel
theorem dX5_init_34 : decode cX5_init 34 = .ok (.if_icmp .ge 22, 3) := by decide +kernel
theorem dX5_init_37 : decode cX5_init 37 = .ok (.aload_n 0, 1) := by decide +kernel
theorem dX5_init_38 : decode cX5_init 38 = .ok (.getfield 22, 3) := by decide +kernel
theorem dX5_init_41 : decode cX5_init 41 = .ok (.iload_n 2, 1) := by decide +kernel
theorem dX5_init_42 : decode cX5_init 42 = .ok (.new 15, 3) := by decide +kernel
theorem dX5_init_45 : decode cX5_init 45 = .ok (.dup, 1) := by decide +kernel
theorem dX5_init_46 : decode cX5_init 46 = .ok (.invokespecial 17, 3) := by decide +kernel
theorem dX5_init_49 : decode cX5_init 49 = .ok (.aastore, 1) := by decide +kernel
theorem dX5_init_50 : decode cX5_init 50 = .ok (.iinc 2 1, 3) := by decide +kernel
theorem dX5_init_53 : decode cX5_init 53 = .ok (.goto (-21), 3) := by decide +kernel
theorem dX5_init_56 : decode cX5_init 56 = .ok (.return_, 1) := by decide +kernel
theorem dX5_open_0 : decode cX5_open 0 = .ok (.iconst 0, 1) := by decide +kernel
theorem dX5_open_1 : decode cX5_open 1 = .ok (.istore_n 2, 1) := by decide +kernel
theorem dX5_open_2 : decode cX5_open 2 = .ok (.iload_n 2, 1) := by decide +kernel
theorem dX5_open_3 : decode cX5_open 3 = .ok (.iconst 5, 1) := by decide +kernel
theorem dX5_open_4 : decode cX5_open 4 = .ok (.if_icmp .ge 24, 3) := by decide +kernel
theorem dX5_open_7 : decode cX5_open 7 = .ok (.iload_n 2, 1) := by decide +kernel
theorem dX5_open_8 : decode cX5_open 8 = .ok (.aload_n 1, 1) := by decide +kernel
theorem dX5_open_9 : decode cX5_open 9 = .ok (.arraylength, 1) := by decide +kernel
theorem dX5_open_10 : decode cX5_open 10 = .ok (.if_icmp .ge 18, 3) := by decide +kernel
theorem dX5_open_13 : decode cX5_open 13 = .ok (.aload_n 0, 1) := by decide +kernel
theorem dX5_open_14 : decode cX5_open 14 = .ok (.getfield 9, 3) := by decide +kernel
theorem dX5_open_17 : decode cX5_open 17 = .ok (.iload_n 2, 1) := by decide +kernel
theorem dX5_open_18 : decode cX5_open 18 = .ok (.aload_n 1, 1) := by decide +kernel
theorem dX5_open_19 : decode cX5_open 19 = .ok (.iload_n 2, 1) := by decide +kernel
theorem dX5_open_20 : decode cX5_open 20 = .ok (.iaload, 1) := by decide +kernel
theorem dX5_open_21 : decode cX5_open 21 = .ok (.iastore, 1) := by decide +kernel
theorem dX5_open_22 : decode cX5_open 22 = .ok (.iinc 2 1, 3) := by decide +kernel
theorem dX5_open_25 : decode cX5_open 25 = .ok (.goto (-23), 3) := by decide +kernel
theorem dX5_open_28 : decode cX5_open 28 = .ok (.aload_n 0, 1) := by decide +kernel
theorem dX5_open_29 : decode cX5_open 29 = .ok (.iconst 0, 1) := by decide +kernel
theorem dX5_open_30 : decode cX5_open 30 = .ok (.putfield 26, 3) := by decide +kernel
theorem dX5_open_33 : decode cX5_open 33 = .ok (.aload_n 0, 1) := by decide +kernel
theorem dX5_open_34 : decode cX5_open 34 = .ok (.getfield 18, 3) := by decide +kernel
theorem dX5_open_37 : decode cX5_open 37 = .ok (.aload_n 0, 1) := by decide +kernel
theorem dX5_open_38 : decode cX5_open 38 = .ok (.getfield 9, 3) := by decide +kernel
theorem dX5_open_41 : decode cX5_open 41 = .ok (.iconst 0, 1) := by decide +kernel
theorem dX5_open_42 : decode cX5_open 42 = .ok (.iaload, 1) := by decide +kernel
theorem dX5_open_43 : decode cX5_open 43 = .ok (.invokevirtual 30, 3) := by decide +kernel
theorem dX5_open_46 : decode cX5_open 46 = .ok (.return_, 1) := by decide +kernel
theorem dX5_changeLead_0 : decode cX5_changeLead 0 = .ok (.aload_n 0, 1) := by decide +kernel
theorem dX5_changeLead_1 : decode cX5_changeLead 1 = .ok (.getfield 9, 3) := by decide +kernel
theorem dX5_changeLead_4 : decode cX5_changeLead 4 = .ok (.iconst 0, 1) := by decide +kernel
theorem dX5_changeLead_5 : decode cX5_changeLead 5 = .ok (.iload_n 1, 1) := by decide +kernel
theorem dX5_changeLead_6 : decode cX5_changeLead 6 = .ok (.iastore, 1) := by decide +kernel
theorem dX5_changeLead_7 : decode cX5_changeLead 7 = .ok (.aload_n 0, 1) := by decide +kernel
theorem dX5_changeLead_8 : decode cX5_changeLead 8 = .ok (.getfield 18, 3) := by decide +kernel
theorem dX5_changeLead_11 : decode cX5_changeLead 11 = .ok (.iload_n 1, 1) := by decide +kernel
theorem dX5_changeLead_12 : decode cX5_changeLead 12 = .ok (.invokevirtual 30, 3) := by decide +kernel
theorem dX5_changeLead_15 : decode cX5_changeLead 15 = .ok (.return_, 1) := by decide +kernel
theorem dX5_letHimPause_0 : decode cX5_letHimPause 0 = .ok (.aload_n 0, 1) := by decide +kernel
theorem dX5_letHimPause_1 : decode cX5_letHimPause 1 = .ok (.getfield 9, 3) := by decide +kernel
theorem dX5_letHimPause_4 : decode cX5_letHimPause 4 = .ok (.iconst 4, 1) := by decide +kernel
theorem dX5_letHimPause_5 : decode cX5_letHimPause 5 = .ok (.iconst 0, 1) := by decide +kernel
theorem dX5_letHimPause_6 : decode cX5_letHimPause 6 = .ok (.iastore, 1) := by decide +kernel
theorem dX5_letHimPause_7 : decode cX5_letHimPause 7 = .ok (.aload_n 0, 1) := by decide +kernel
theorem dX5_letHimPause_8 : decode cX5_letHimPause 8 = .ok (.getfield 9, 3) := by decide +kernel
theorem dX5_letHimPause_11 : decode cX5_letHimPause 11 = .ok (.iconst 3, 1) := by decide +kernel
theorem dX5_letHimPause_12 : decode cX5_letHimPause 12 = .ok (.aload_n 0, 1) := by decide +kernel
theorem dX5_letHimPause_13 : decode cX5_letHimPause 13 = .ok (.getfield 22, 3) := by decide +kernel
theorem dX5_letHimPause_16 : decode cX5_letHimPause 16 = .ok (.arraylength, 1) := by decide +kernel
theorem dX5_letHimPause_17 : decode cX5_letHimPause 17 = .ok (.iastore, 1) := by decide +kernel
theorem dX5_letHimPause_18 : decode cX5_letHimPause 18 = .ok (.return_, 1) := by decide +kernel
theorem dX5_addAll_0 : decode cX5_addAll 0 = .ok (.iconst 0, 1) := by decide +kernel
theorem dX5_addAll_1 : decode cX5_addAll 1 = .ok (.istore_n 2, 1) := by decide +kernel
theorem dX5_addAll_2 : decode cX5_addAll 2 = .ok (.iload_n 2, 1) := by decide +kernel
theorem dX5_addAll_3 : decode cX5_addAll 3 = .ok (.aload_n 1, 1) := by decide +kernel
theorem dX5_addAll_4 : decode cX5_addAll 4 = .ok (.getfield 34, 3) := by decide +kernel
theorem dX5_addAll_7 : decode cX5_addAll 7 = .ok (.if_icmp .ge 15, 3) := by decide +kernel
theorem dX5_addAll_10 : decode cX5_addAll 10 = .ok (.aload_n 0, 1) := by decide +kernel
theorem dX5_addAll_11 : decode cX5_addAll 11 = .ok (.aload_n 1, 1) := by decide +kernel
theorem dX5_addAll_12 : decode cX5_addAll 12 = .ok (.iload_n 2, 1) := by decide +kernel
theorem dX5_addAll_13 : decode cX5_addAll 13 = .ok (.invokevirtual 37, 3) := by decide +kernel
theorem dX5_addAll_16 : decode cX5_addAll 16 = .ok (.iinc 2 1, 3) := by decide +kernel
theorem dX5_addAll_19 : decode cX5_addAll 19 = .ok (.goto (-17), 3) := by decide +kernel
theorem dX5_addAll_22 : decode cX5_addAll 22 = .ok (.return_, 1) := by decide +kernel
theorem dX5_add_0 : decode cX5_add 0 = .ok (.aload_n 0, 1) := by decide +kernel
theorem dX5_add_1 : decode cX5_add 1 = .ok (.getfield 26, 3) := by decide +kernel
theorem dX5_add_4 : decode cX5_add 4 = .ok (.aload_n 0, 1) := by decide +kernel
theorem dX5_add_5 : decode cX5_add 5 = .ok (.getfield 22, 3) := by decide +kernel
theorem dX5_add_8 : decode cX5_add 8 = .ok (.arraylength, 1) := by decide +kernel
theorem dX5_add_9 : decode cX5_add 9 = .ok (.if_icmp .lt 4, 3) := by decide +kernel
theorem dX5_add_12 : decode cX5_add 12 = .ok (.return_, 1) := by decide +kernel
theorem dX5_add_13 : decode cX5_add 13 = .ok (.aload_n 0, 1) := by decide +kernel
theorem dX5_add_14 : decode cX5_add 14 = .ok (.getfield 22, 3) := by decide +kernel
theorem dX5_add_17 : decode cX5_add 17 = .ok (.aload_n 0, 1) := by decide +kernel
theorem dX5_add_18 : decode cX5_add 18 = .ok (.getfield 26, 3) := by decide +kernel
theorem dX5_add_21 : decode cX5_add 21 = .ok (.aaload, 1) := by decide +kernel
theorem dX5_add_22 : decode cX5_add 22 = .ok (.astore_n 3, 1) := by decide +kernel
theorem dX5_add_23 : decode cX5_add 23 = .ok (.aload_n 3, 1) := by decide +kernel
theorem dX5_add_24 : decode cX5_add 24 = .ok (.aload_n 1, 1) := by decide +kernel
theorem dX5_add_25 : decode cX5_add 25 = .ok (.iload_n 2, 1) := by decide +kernel
theorem dX5_add_26 : decode cX5_add 26 = .ok (.invokevirtual 41, 3) := by decide +kernel
theorem dX5_add_29 : decode cX5_add 29 = .ok (.putfield 45, 3) := by decide +kernel
theorem dX5_add_32 : decode cX5_add 32 = .ok (.aload_n 3, 1) := by decide +kernel
theorem dX5_add_33 : decode cX5_add 33 = .ok (.aload_n 1, 1) := by decide +kernel
theorem dX5_add_34 : decode cX5_add 34 = .ok (.iload_n 2, 1) := by decide +kernel
theorem dX5_add_35 : decode cX5_add 35 = .ok (.iconst 1, 1) := by decide +kernel
theorem dX5_add_36 : decode cX5_add 36 = .ok (.invokevirtual 48, 3) := by decide +kernel
theorem dX5_add_39 : decode cX5_add 39 = .ok (.putfield 52, 3) := by decide +kernel
theorem dX5_add_42 : decode cX5_add 42 = .ok (.aload_n 0, 1) := by decide +kernel
theorem dX5_add_43 : decode cX5_add 43 = .ok (.aload_n 3, 1) := by decide +kernel
theorem dX5_add_44 : decode cX5_add 44 = .ok (.getfield 45, 3) := by decide +kernel
theorem dX5_add_47 : decode cX5_add 47 = .ok (.invokevirtual 55, 3) := by decide +kernel
theorem dX5_add_50 : decode cX5_add 50 = .ok (.istore 4, 2) := by decide +kernel
theorem dX5_add_52 : decode cX5_add 52 = .ok (.aload_n 3, 1) := by decide +kernel
theorem dX5_add_53 : decode cX5_add 53 = .ok (.getfield 45, 3) := by decide +kernel
theorem dX5_add_56 : decode cX5_add 56 = .ok (.iconst 1, 1) := by decide +kernel
theorem dX5_add_57 : decode cX5_add 57 = .ok (.if_icmp .ne 12, 3) := by decide +kernel
theorem dX5_add_60 : decode cX5_add 60 = .ok (.iload 4, 2) := by decide +kernel
theorem dX5_add_62 : decode cX5_add 62 = .ok (.ifCond .le 7, 3) := by decide +kernel
theorem dX5_add_65 : decode cX5_add 65 = .ok (.iconst 1, 1) := by decide +kernel
theorem dX5_add_66 : decode cX5_add 66 = .ok (.goto 4, 3) := by decide +kernel
theorem dX5_add_69 : decode cX5_add 69 = .ok (.iconst 0, 1) := by decide +kernel
theorem dX5_add_70 : decode cX5_add 70 = .ok (.istore 5, 2) := by decide +kernel
theorem dX5_add_72 : decode cX5_add 72 = .ok (.aload_n 3, 1) := by decide +kernel
theorem dX5_add_73 : decode cX5_add 73 = .ok (.iload 5, 2) := by decide +kernel
theorem dX5_add_75 : decode cX5_add 75 = .ok (.ifCond .eq 7, 3) := by decide +kernel
theorem dX5_add_78 : decode cX5_add 78 = .ok (.iconst 0, 1) := by decide +kernel
theorem dX5_add_79 : decode cX5_add 79 = .ok (.goto 9, 3) := by decide +kernel
theorem dX5_add_82 : decode cX5_add 82 = .ok (.aload_n 1, 1) := by decide +kernel
theorem dX5_add_83 : decode cX5_add 83 = .ok (.iload_n 2, 1) := by decide +kernel
theorem dX5_add_84 : decode cX5_add 84 = .ok (.iconst 0, 1) := by decide +kernel
theorem dX5_add_85 : decode cX5_add 85 = .ok (.invokevirtual 48, 3) := by decide +kernel
theorem dX5_add_88 : decode cX5_add 88 = .ok (.putfield 58, 3) := by decide +kernel
theorem dX5_add_91 : decode cX5_add 91 = .ok (.aload_n 3, 1) := by decide +kernel
theorem dX5_add_92 : decode cX5_add 92 = .ok (.iload 5, 2) := by decide +kernel
theorem dX5_add_94 : decode cX5_add 94 = .ok (.ifCond .eq 7, 3) := by decide +kernel
theorem dX5_add_97 : decode cX5_add 97 = .ok (.iconst 0, 1) := by decide +kernel
theorem dX5_add_98 : decode cX5_add 98 = .ok (.goto 16, 3) := by decide +kernel
theorem dX5_add_101 : decode cX5_add 101 = .ok (.iconst 0, 1) := by decide +kernel
theorem dX5_add_102 : decode cX5_add 102 = .ok (.aload_n 1, 1) := by decide +kernel
theorem dX5_add_103 : decode cX5_add 103 = .ok (.iload_n 2, 1) := by decide +kernel
theorem dX5_add_104 : decode cX5_add 104 = .ok (.iconst 2, 1) := by decide +kernel
theorem dX5_add_105 : decode cX5_add 105 = .ok (.invokevirtual 48, 3) := by decide +kernel
theorem dX5_add_108 : decode cX5_add 108 = .ok (.iload 4, 2) := by decide +kernel
theorem dX5_add_110 : decode cX5_add 110 = .ok (.isub, 1) := by decide +kernel
theorem dX5_add_111 : decode cX5_add 111 = .ok (.invokestatic 61, 3) := by decide +kernel
theorem dX5_add_114 : decode cX5_add 114 = .ok (.putfield 66, 3) := by decide +kernel
theorem dX5_add_117 : decode cX5_add 117 = .ok (.aload_n 0, 1) := by decide +kernel
theorem dX5_add_118 : decode cX5_add 118 = .ok (.invokevirtual 69, 3) := by decide +kernel
theorem dX5_add_121 : decode cX5_add 121 = .ok (.astore 6, 2) := by decide +kernel
theorem dX5_add_123 : decode cX5_add 123 = .ok (.aload_n 3, 1) := by decide +kernel
theorem dX5_add_124 : decode cX5_add 124 = .ok (.aload 6, 2) := by decide +kernel
theorem dX5_add_126 : decode cX5_add 126 = .ok (.invokevirtual 73, 3) := by decide +kernel
theorem dX5_add_129 : decode cX5_add 129 = .ok (.aload_n 0, 1) := by decide +kernel
theorem dX5_add_130 : decode cX5_add 130 = .ok (.dup, 1) := by decide +kernel
theorem dX5_add_131 : decode cX5_add 131 = .ok (.getfield 26, 3) := by decide +kernel
theorem dX5_add_134 : decode cX5_add 134 = .ok (.iconst 1, 1) := by decide +kernel
theorem dX5_add_135 : decode cX5_add 135 = .ok (.iadd, 1) := by decide +kernel
theorem dX5_add_136 : decode cX5_add 136 = .ok (.putfield 26, 3) := by decide +kernel
theorem dX5_add_139 : decode cX5_add 139 = .ok (.aload_n 3, 1) := by decide +kernel
theorem dX5_add_140 : decode cX5_add 140 = .ok (.getfield 77, 3) := by decide +kernel
theorem dX5_add_143 : decode cX5_add 143 = .ok (.aload_n 3, 1) := by decide +kernel
theorem dX5_add_144 : decode cX5_add 144 = .ok (.getfield 80, 3) := by decide +kernel
theorem dX5_add_147 : decode cX5_add 147 = .ok (.if_icmp .gt 7, 3) := by decide +kernel
theorem dX5_add_150 : decode cX5_add 150 = .ok (.iconst 1, 1) := by decide +kernel
theorem dX5_add_151 : decode cX5_add 151 = .ok (.goto 4, 3) := by decide +kernel
theorem dX5_add_154 : decode cX5_add 154 = .ok (.iconst 0, 1) := by decide +kernel
theorem dX5_add_155 : decode cX5_add 155 = .ok (.istore 7, 2) := by decide +kernel
theorem dX5_add_157 : decode cX5_add 157 = .ok (.aload 6, 2) := by decide +kernel
theorem dX5_add_159 : decode cX5_add 159 = .ok (.getfield 83, 3) := by decide +kernel
theorem dX5_add_162 : decode cX5_add 162 = .ok (.iconst (-1), 1) := by decide +kernel
theorem dX5_add_163 : decode cX5_add 163 = .ok (.if_icmp .eq 48, 3) := by decide +kernel
theorem dX5_add_166 : decode cX5_add 166 = .ok (.iload 7, 2) := by decide +kernel
theorem dX5_add_168 : decode cX5_add 168 = .ok (.ifCond .ne 12, 3) := by decide +kernel
theorem dX5_add_171 : decode cX5_add 171 = .ok (.aload_n 0, 1) := by decide +kernel
theorem dX5_add_172 : decode cX5_add 172 = .ok (.getfield 9, 3) := by decide +kernel
theorem dX5_add_175 : decode cX5_add 175 = .ok (.iconst 4, 1) := by decide +kernel
theorem dX5_add_176 : decode cX5_add 176 = .ok (.iaload, 1) := by decide +kernel
theorem dX5_add_177 : decode cX5_add 177 = .ok (.ifCond .ne 34, 3) := by decide +kernel
theorem dX5_add_180 : decode cX5_add 180 = .ok (.aload_n 3, 1) := by decide +kernel
theorem dX5_add_181 : decode cX5_add 181 = .ok (.aload 6, 2) := by decide +kernel
theorem dX5_add_183 : decode cX5_add 183 = .ok (.getfield 83, 3) := by decide +kernel
theorem dX5_add_186 : decode cX5_add 186 = .ok (.invokevirtual 86, 3) := by decide +kernel
theorem dX5_add_189 : decode cX5_add 189 = .ok (.aload_n 3, 1) := by decide +kernel
theorem dX5_add_190 : decode cX5_add 190 = .ok (.aload_n 0, 1) := by decide +kernel
theorem dX5_add_191 : decode cX5_add 191 = .ok (.getfield 9, 3) := by decide +kernel
theorem dX5_add_194 : decode cX5_add 194 = .ok (.iconst 1, 1) := by decide +kernel
theorem dX5_add_195 : decode cX5_add 195 = .ok (.iaload, 1) := by decide +kernel
theorem dX5_add_196 : decode cX5_add 196 = .ok (.aload_n 0, 1) := by decide +kernel
theorem dX5_add_197 : decode cX5_add 197 = .ok (.getfield 9, 3) := by decide +kernel
theorem dX5_add_200 : decode cX5_add 200 = .ok (.iconst 2, 1) := by decide +kernel
theorem dX5_add_201 : decode cX5_add 201 = .ok (.iaload, 1) := by decide +kernel
theorem dX5_add_202 : decode cX5_add 202 = .ok (.aload_n 0, 1) := by decide +kernel
theorem dX5_add_203 : decode cX5_add 203 = .ok (.getfield 9, 3) := by decide +kernel
theorem dX5_add_206 : decode cX5_add 206 = .ok (.iconst 3, 1) := by decide +kernel
theorem dX5_add_207 : decode cX5_add 207 = .ok (.iaload, 1) := by decide +kernel
theorem dX5_add_208 : decode cX5_add 208 = .ok (.invokevirtual 89, 3) := by decide +kernel
theorem dX5_add_211 : decode cX5_add 211 = .ok (.return_, 1) := by decide +kernel
theorem dX5_dropLast_0 : decode cX5_dropLast 0 = .ok (.aload_n 0, 1) := by decide +kernel
theorem dX5_dropLast_1 : decode cX5_dropLast 1 = .ok (.getfield 26, 3) := by decide +kernel
theorem dX5_dropLast_4 : decode cX5_dropLast 4 = .ok (.ifCond .le 13, 3) := by decide +kernel
theorem dX5_dropLast_7 : decode cX5_dropLast 7 = .ok (.aload_n 0, 1) := by decide +kernel
theorem dX5_dropLast_8 : decode cX5_dropLast 8 = .ok (.dup, 1) := by decide +kernel
theorem dX5_dropLast_9 : decode cX5_dropLast 9 = .ok (.getfield 26, 3) := by decide +kernel
theorem dX5_dropLast_12 : decode cX5_dropLast 12 = .ok (.iconst 1, 1) := by decide +kernel
theorem dX5_dropLast_13 : decode cX5_dropLast 13 = .ok (.isub, 1) := by decide +kernel
theorem dX5_dropLast_14 : decode cX5_dropLast 14 = .ok (.putfield 26, 3) := by decide +kernel
theorem dX5_dropLast_17 : decode cX5_dropLast 17 = .ok (.return_, 1) := by decide +kernel
theorem dX5_howManyOf_0 : decode cX5_howManyOf 0 = .ok (.iconst 0, 1) := by decide +kernel
theorem dX5_howManyOf_1 : decode cX5_howManyOf 1 = .ok (.istore_n 2, 1) := by decide +kernel
theorem dX5_howManyOf_2 : decode cX5_howManyOf 2 = .ok (.iconst 0, 1) := by decide +kernel
theorem dX5_howManyOf_3 : decode cX5_howManyOf 3 = .ok (.istore_n 3, 1) := by decide +kernel
theorem dX5_howManyOf_4 : decode cX5_howManyOf 4 = .ok (.iload_n 3, 1) := by decide +kernel
theorem dX5_howManyOf_5 : decode cX5_howManyOf 5 = .ok (.aload_n 0, 1) := by decide +kernel
theorem dX5_howManyOf_6 : decode cX5_howManyOf 6 = .ok (.getfield 26, 3) := by decide +kernel
theorem dX5_howManyOf_9 : decode cX5_howManyOf 9 = .ok (.if_icmp .ge 25, 3) := by decide +kernel
theorem dX5_howManyOf_12 : decode cX5_howManyOf 12 = .ok (.aload_n 0, 1) := by decide +kernel
theorem dX5_howManyOf_13 : decode cX5_howManyOf 13 = .ok (.getfield 22, 3) := by decide +kernel
theorem dX5_howManyOf_16 : decode cX5_howManyOf 16 = .ok (.iload_n 3, 1) := by decide +kernel
theorem dX5_howManyOf_17 : decode cX5_howManyOf 17 = .ok (.aaload, 1) := by decide +kernel
theorem dX5_howManyOf_18 : decode cX5_howManyOf 18 = .ok (.getfield 45, 3) := by decide +kernel
theorem dX5_howManyOf_21 : decode cX5_howManyOf 21 = .ok (.iload_n 1, 1) := by decide +kernel
theorem dX5_howManyOf_22 : decode cX5_howManyOf 22 = .ok (.if_icmp .ne 6, 3) := by decide +kernel
theorem dX5_howManyOf_25 : decode cX5_howManyOf 25 = .ok (.iinc 2 1, 3) := by decide +kernel
theorem dX5_howManyOf_28 : decode cX5_howManyOf 28 = .ok (.iinc 3 1, 3) := by decide +kernel
theorem dX5_howManyOf_31 : decode cX5_howManyOf 31 = .ok (.goto (-27), 3) := by decide +kernel
theorem dX5_howManyOf_34 : decode cX5_howManyOf 34 = .ok (.iload_n 2, 1) := by decide +kernel
theorem dX5_howManyOf_35 : decode cX5_howManyOf 35 = .ok (.ireturn, 1) := by decide +kernel
theorem dX5_turnAt_0 : decode cX5_turnAt 0 = .ok (.iload_n 1, 1) := by decide +kernel
theorem dX5_turnAt_1 : decode cX5_turnAt 1 = .ok (.ifCond .lt 20, 3) := by decide +kernel
theorem dX5_turnAt_4 : decode cX5_turnAt 4 = .ok (.iload_n 1, 1) := by decide +kernel
theorem dX5_turnAt_5 : decode cX5_turnAt 5 = .ok (.aload_n 0, 1) := by decide +kernel
theorem dX5_turnAt_6 : decode cX5_turnAt 6 = .ok (.getfield 26, 3) := by decide +kernel
theorem dX5_turnAt_9 : decode cX5_turnAt 9 = .ok (.if_icmp .ge 12, 3) := by decide +kernel
theorem dX5_turnAt_12 : decode cX5_turnAt 12 = .ok (.aload_n 0, 1) := by decide +kernel
theorem dX5_turnAt_13 : decode cX5_turnAt 13 = .ok (.getfield 22, 3) := by decide +kernel
theorem dX5_turnAt_16 : decode cX5_turnAt 16 = .ok (.iload_n 1, 1) := by decide +kernel
theorem dX5_turnAt_17 : decode cX5_turnAt 17 = .ok (.aaload, 1) := by decide +kernel
theorem dX5_turnAt_18 : decode cX5_turnAt 18 = .ok (.goto 7, 3) := by decide +kernel
theorem dX5_turnAt_21 : decode cX5_turnAt 21 = .ok (.aload_n 0, 1) := by decide +kernel
theorem dX5_turnAt_22 : decode cX5_turnAt 22 = .ok (.getfield 18, 3) := by decide +kernel
theorem dX5_turnAt_25 : decode cX5_turnAt 25 = .ok (.areturn, 1) := by decide +kernel
theorem dX5_last_0 : decode cX5_last 0 = .ok (.aload_n 0, 1) := by decide +kernel
theorem dX5_last_1 : decode cX5_last 1 = .ok (.aload_n 0, 1) := by decide +kernel
theorem dX5_last_2 : decode cX5_last 2 = .ok (.getfield 26, 3) := by decide +kernel
theorem dX5_last_5 : decode cX5_last 5 = .ok (.iconst 1, 1) := by decide +kernel
theorem dX5_last_6 : decode cX5_last 6 = .ok (.isub, 1) := by decide +kernel
theorem dX5_last_7 : decode cX5_last 7 = .ok (.invokevirtual 93, 3) := by decide +kernel
theorem dX5_last_10 : decode cX5_last 10 = .ok (.areturn, 1) := by decide +kernel
theorem dX5_isWholeWithoutPause_0 : decode cX5_isWholeWithoutPause 0 = .ok (.aload_n 0, 1) := by decide +kernel
theorem dX5_isWholeWithoutPause_1 : decode cX5_isWholeWithoutPause 1 = .ok (.invokevirtual 69, 3) := by decide +kernel
theorem dX5_isWholeWithoutPause_4 : decode cX5_isWholeWithoutPause 4 = .ok (.getfield 83, 3) := by decide +kernel
theorem dX5_isWholeWithoutPause_7 : decode cX5_isWholeWithoutPause 7 = .ok (.iconst (-1), 1) := by decide +kernel
theorem dX5_isWholeWithoutPause_8 : decode cX5_isWholeWithoutPause 8 = .ok (.if_icmp .eq 17, 3) := by decide +kernel
theorem dX5_isWholeWithoutPause_11 : decode cX5_isWholeWithoutPause 11 = .ok (.aload_n 0, 1) := by decide +kernel
theorem dX5_isWholeWithoutPause_12 : decode cX5_isWholeWithoutPause 12 = .ok (.invokevirtual 69, 3) := by decide +kernel
theorem dX5_isWholeWithoutPause_15 : decode cX5_isWholeWithoutPause 15 = .ok (.getfield 97, 3) := by decide +kernel
theorem dX5_isWholeWithoutPause_18 : decode cX5_isWholeWithoutPause 18 = .ok (.ifCond .ne 7, 3) := by decide +kernel
theorem dX5_isWholeWithoutPause_21 : decode cX5_isWholeWithoutPause 21 = .ok (.iconst 1, 1) := by decide +kernel
theorem dX5_isWholeWithoutPause_22 : decode cX5_isWholeWithoutPause 22 = .ok (.goto 4, 3) := by decide +kernel
theorem dX5_isWholeWithoutPause_25 : decode cX5_isWholeWithoutPause 25 = .ok (.iconst 0, 1) := by decide +kernel
theorem dX5_isWholeWithoutPause_26 : decode cX5_isWholeWithoutPause 26 = .ok (.ireturn, 1) := by decide +kernel
theorem dX5_howManyWritten_0 : decode cX5_howManyWritten 0 = .ok (.iconst 0, 1) := by decide +kernel
theorem dX5_howManyWritten_1 : decode cX5_howManyWritten 1 = .ok (.istore_n 1, 1) := by decide +kernel
theorem dX5_howManyWritten_2 : decode cX5_howManyWritten 2 = .ok (.iload_n 1, 1) := by decide +kernel
theorem dX5_howManyWritten_3 : decode cX5_howManyWritten 3 = .ok (.aload_n 0, 1) := by decide +kernel
theorem dX5_howManyWritten_4 : decode cX5_howManyWritten 4 = .ok (.getfield 26, 3) := by decide +kernel
theorem dX5_howManyWritten_7 : decode cX5_howManyWritten 7 = .ok (.if_icmp .ge 22, 3) := by decide +kernel
theorem dX5_howManyWritten_10 : decode cX5_howManyWritten 10 = .ok (.aload_n 0, 1) := by decide +kernel
theorem dX5_howManyWritten_11 : decode cX5_howManyWritten 11 = .ok (.getfield 22, 3) := by decide +kernel
theorem dX5_howManyWritten_14 : decode cX5_howManyWritten 14 = .ok (.iload_n 1, 1) := by decide +kernel
theorem dX5_howManyWritten_15 : decode cX5_howManyWritten 15 = .ok (.aaload, 1) := by decide +kernel
theorem dX5_howManyWritten_16 : decode cX5_howManyWritten 16 = .ok (.getfield 83, 3) := by decide +kernel
theorem dX5_howManyWritten_19 : decode cX5_howManyWritten 19 = .ok (.iconst (-1), 1) := by decide +kernel
theorem dX5_howManyWritten_20 : decode cX5_howManyWritten 20 = .ok (.if_icmp .eq 9, 3) := by decide +kernel
theorem dX5_howManyWritten_23 : decode cX5_howManyWritten 23 = .ok (.iinc 1 1, 3) := by decide +kernel
theorem dX5_howManyWritten_26 : decode cX5_howManyWritten 26 = .ok (.goto (-24), 3) := by decide +kernel
theorem dX5_howManyWritten_29 : decode cX5_howManyWritten 29 = .ok (.iload_n 1, 1) := by decide +kernel
theorem dX5_howManyWritten_30 : decode cX5_howManyWritten 30 = .ok (.ireturn, 1) := by decide +kernel
theorem dX5_lastWritten_0 : decode cX5_lastWritten 0 = .ok (.aload_n 0, 1) := by decide +kernel
theorem dX5_lastWritten_1 : decode cX5_lastWritten 1 = .ok (.aload_n 0, 1) := by decide +kernel
theorem dX5_lastWritten_2 : decode cX5_lastWritten 2 = .ok (.invokevirtual 100, 3) := by decide +kernel
theorem dX5_lastWritten_5 : decode cX5_lastWritten 5 = .ok (.iconst 1, 1) := by decide +kernel
theorem dX5_lastWritten_6 : decode cX5_lastWritten 6 = .ok (.isub, 1) := by decide +kernel
theorem dX5_lastWritten_7 : decode cX5_lastWritten 7 = .ok (.invokevirtual 93, 3) := by decide +kernel
theorem dX5_lastWritten_10 : decode cX5_lastWritten 10 = .ok (.getfield 83, 3) := by decide +kernel
