theorem dX8_restOf_15 : decode cX8_restOf 15 = .ok (.getfield 34, 3) := by decide +kernel
theorem dX8_restOf_18 : decode cX8_restOf 18 = .ok (.iconst 0, 1) := by decide +kernel
theorem dX8_restOf_19 : decode cX8_restOf 19 = .ok (.iaload, 1) := by decide +kernel
theorem dX8_restOf_20 : decode cX8_restOf 20 = .ok (.aload_n 0, 1) := by decide +kernel
theorem dX8_restOf_21 : decode cX8_restOf 21 = .ok (.getfield 46, 3) := by decide +kernel
theorem dX8_restOf_24 : decode cX8_restOf 24 = .ok (.iload_n 1, 1) := by decide +kernel
theorem dX8_restOf_25 : decode cX8_restOf 25 = .ok (.iaload, 1) := by decide +kernel
theorem dX8_restOf_26 : decode cX8_restOf 26 = .ok (.invokevirtual 186, 3) := by decide +kernel
theorem dX8_restOf_29 : decode cX8_restOf 29 = .ok (.istore_n 2, 1) := by decide +kernel
theorem dX8_restOf_30 : decode cX8_restOf 30 = .ok (.iconst 0, 1) := by decide +kernel
theorem dX8_restOf_31 : decode cX8_restOf 31 = .ok (.istore_n 3, 1) := by decide +kernel
theorem dX8_restOf_32 : decode cX8_restOf 32 = .ok (.iload_n 3, 1) := by decide +kernel
theorem dX8_restOf_33 : decode cX8_restOf 33 = .ok (.iload_n 1, 1) := by decide +kernel
theorem dX8_restOf_34 : decode cX8_restOf 34 = .ok (.if_icmp .gt 18, 3) := by decide +kernel
theorem dX8_restOf_37 : decode cX8_restOf 37 = .ok (.iload_n 2, 1) := by decide +kernel
theorem dX8_restOf_38 : decode cX8_restOf 38 = .ok (.aload_n 0, 1) := by decide +kernel
theorem dX8_restOf_39 : decode cX8_restOf 39 = .ok (.getfield 40, 3) := by decide +kernel
theorem dX8_restOf_42 : decode cX8_restOf 42 = .ok (.iload_n 3, 1) := by decide +kernel
theorem dX8_restOf_43 : decode cX8_restOf 43 = .ok (.iaload, 1) := by decide +kernel
theorem dX8_restOf_44 : decode cX8_restOf 44 = .ok (.isub, 1) := by decide +kernel
theorem dX8_restOf_45 : decode cX8_restOf 45 = .ok (.istore_n 2, 1) := by decide +kernel
theorem dX8_restOf_46 : decode cX8_restOf 46 = .ok (.iinc 3 1, 3) := by decide +kernel
theorem dX8_restOf_49 : decode cX8_restOf 49 = .ok (.goto (-17), 3) := by decide +kernel
theorem dX8_restOf_52 : decode cX8_restOf 52 = .ok (.iload_n 2, 1) := by decide +kernel
theorem dX8_restOf_53 : decode cX8_restOf 53 = .ok (.ireturn, 1) := by decide +kernel
theorem dX8_rest_0 : decode cX8_rest 0 = .ok (.aload_n 0, 1) := by decide +kernel
theorem dX8_rest_1 : decode cX8_rest 1 = .ok (.invokevirtual 162, 3) := by decide +kernel
theorem dX8_rest_4 : decode cX8_rest 4 = .ok (.aload_n 0, 1) := by decide +kernel
theorem dX8_rest_5 : decode cX8_rest 5 = .ok (.iload_n 1, 1) := by decide +kernel
theorem dX8_rest_6 : decode cX8_rest 6 = .ok (.invokevirtual 165, 3) := by decide +kernel
theorem dX8_rest_9 : decode cX8_rest 9 = .ok (.ifCond .eq 11, 3) := by decide +kernel
theorem dX8_rest_12 : decode cX8_rest 12 = .ok (.aload_n 0, 1) := by decide +kernel
theorem dX8_rest_13 : decode cX8_rest 13 = .ok (.iload_n 1, 1) := by decide +kernel
theorem dX8_rest_14 : decode cX8_rest 14 = .ok (.invokevirtual 189, 3) := by decide +kernel
theorem dX8_rest_17 : decode cX8_rest 17 = .ok (.goto 5, 3) := by decide +kernel
theorem dX8_rest_20 : decode cX8_rest 20 = .ok (.bipush (-2), 2) := by decide +kernel
theorem dX8_rest_22 : decode cX8_rest 22 = .ok (.ireturn, 1) := by decide +kernel
theorem dX8_makesIn_0 : decode cX8_makesIn 0 = .ok (.aload_n 0, 1) := by decide +kernel
theorem dX8_makesIn_1 : decode cX8_makesIn 1 = .ok (.iload_n 2, 1) := by decide +kernel
theorem dX8_makesIn_2 : decode cX8_makesIn 2 = .ok (.invokevirtual 183, 3) := by decide +kernel
theorem dX8_makesIn_5 : decode cX8_makesIn 5 = .ok (.ifCond .ne 5, 3) := by decide +kernel
theorem dX8_makesIn_8 : decode cX8_makesIn 8 = .ok (.iconst (-1), 1) := by decide +kernel
theorem dX8_makesIn_9 : decode cX8_makesIn 9 = .ok (.ireturn, 1) := by decide +kernel
theorem dX8_makesIn_10 : decode cX8_makesIn 10 = .ok (.aload_n 0, 1) := by decide +kernel
theorem dX8_makesIn_11 : decode cX8_makesIn 11 = .ok (.iload_n 1, 1) := by decide +kernel
theorem dX8_makesIn_12 : decode cX8_makesIn 12 = .ok (.iload_n 2, 1) := by decide +kernel
theorem dX8_makesIn_13 : decode cX8_makesIn 13 = .ok (.invokevirtual 186, 3) := by decide +kernel
theorem dX8_makesIn_16 : decode cX8_makesIn 16 = .ok (.istore_n 3, 1) := by decide +kernel
theorem dX8_makesIn_17 : decode cX8_makesIn 17 = .ok (.iconst 0, 1) := by decide +kernel
theorem dX8_makesIn_18 : decode cX8_makesIn 18 = .ok (.istore 4, 2) := by decide +kernel
theorem dX8_makesIn_20 : decode cX8_makesIn 20 = .ok (.iload 4, 2) := by decide +kernel
theorem dX8_makesIn_22 : decode cX8_makesIn 22 = .ok (.aload_n 0, 1) := by decide +kernel
theorem dX8_makesIn_23 : decode cX8_makesIn 23 = .ok (.getfield 128, 3) := by decide +kernel
theorem dX8_makesIn_26 : decode cX8_makesIn 26 = .ok (.if_icmp .ge 26, 3) := by decide +kernel
theorem dX8_makesIn_29 : decode cX8_makesIn 29 = .ok (.iload_n 3, 1) := by decide +kernel
theorem dX8_makesIn_30 : decode cX8_makesIn 30 = .ok (.aload_n 0, 1) := by decide +kernel
theorem dX8_makesIn_31 : decode cX8_makesIn 31 = .ok (.getfield 40, 3) := by decide +kernel
theorem dX8_makesIn_34 : decode cX8_makesIn 34 = .ok (.iload 4, 2) := by decide +kernel
theorem dX8_makesIn_36 : decode cX8_makesIn 36 = .ok (.iaload, 1) := by decide +kernel
theorem dX8_makesIn_37 : decode cX8_makesIn 37 = .ok (.isub, 1) := by decide +kernel
theorem dX8_makesIn_38 : decode cX8_makesIn 38 = .ok (.istore_n 3, 1) := by decide +kernel
theorem dX8_makesIn_39 : decode cX8_makesIn 39 = .ok (.iload_n 3, 1) := by decide +kernel
theorem dX8_makesIn_40 : decode cX8_makesIn 40 = .ok (.ifCond .ge 6, 3) := by decide +kernel
theorem dX8_makesIn_43 : decode cX8_makesIn 43 = .ok (.iload 4, 2) := by decide +kernel
theorem dX8_makesIn_45 : decode cX8_makesIn 45 = .ok (.ireturn, 1) := by decide +kernel
theorem dX8_makesIn_46 : decode cX8_makesIn 46 = .ok (.iinc 4 1, 3) := by decide +kernel
theorem dX8_makesIn_49 : decode cX8_makesIn 49 = .ok (.goto (-29), 3) := by decide +kernel
theorem dX8_makesIn_52 : decode cX8_makesIn 52 = .ok (.iconst (-1), 1) := by decide +kernel
theorem dX8_makesIn_53 : decode cX8_makesIn 53 = .ok (.ireturn, 1) := by decide +kernel
theorem dX8_saysIn_0 : decode cX8_saysIn 0 = .ok (.iconst 0, 1) := by decide +kernel
theorem dX8_saysIn_1 : decode cX8_saysIn 1 = .ok (.istore_n 2, 1) := by decide +kernel
theorem dX8_saysIn_2 : decode cX8_saysIn 2 = .ok (.iload_n 2, 1) := by decide +kernel
theorem dX8_saysIn_3 : decode cX8_saysIn 3 = .ok (.aload_n 0, 1) := by decide +kernel
theorem dX8_saysIn_4 : decode cX8_saysIn 4 = .ok (.getfield 128, 3) := by decide +kernel
theorem dX8_saysIn_7 : decode cX8_saysIn 7 = .ok (.if_icmp .ge 41, 3) := by decide +kernel
theorem dX8_saysIn_10 : decode cX8_saysIn 10 = .ok (.aload_n 0, 1) := by decide +kernel
theorem dX8_saysIn_11 : decode cX8_saysIn 11 = .ok (.getfield 46, 3) := by decide +kernel
theorem dX8_saysIn_14 : decode cX8_saysIn 14 = .ok (.iload_n 2, 1) := by decide +kernel
theorem dX8_saysIn_15 : decode cX8_saysIn 15 = .ok (.iaload, 1) := by decide +kernel
theorem dX8_saysIn_16 : decode cX8_saysIn 16 = .ok (.iconst (-1), 1) := by decide +kernel
theorem dX8_saysIn_17 : decode cX8_saysIn 17 = .ok (.if_icmp .eq 25, 3) := by decide +kernel
theorem dX8_saysIn_20 : decode cX8_saysIn 20 = .ok (.iload_n 1, 1) := by decide +kernel
theorem dX8_saysIn_21 : decode cX8_saysIn 21 = .ok (.aload_n 0, 1) := by decide +kernel
theorem dX8_saysIn_22 : decode cX8_saysIn 22 = .ok (.getfield 46, 3) := by decide +kernel
theorem dX8_saysIn_25 : decode cX8_saysIn 25 = .ok (.iload_n 2, 1) := by decide +kernel
theorem dX8_saysIn_26 : decode cX8_saysIn 26 = .ok (.iaload, 1) := by decide +kernel
theorem dX8_saysIn_27 : decode cX8_saysIn 27 = .ok (.if_icmp .lt 15, 3) := by decide +kernel
theorem dX8_saysIn_30 : decode cX8_saysIn 30 = .ok (.iload_n 1, 1) := by decide +kernel
theorem dX8_saysIn_31 : decode cX8_saysIn 31 = .ok (.aload_n 0, 1) := by decide +kernel
theorem dX8_saysIn_32 : decode cX8_saysIn 32 = .ok (.getfield 49, 3) := by decide +kernel
theorem dX8_saysIn_35 : decode cX8_saysIn 35 = .ok (.iload_n 2, 1) := by decide +kernel
theorem dX8_saysIn_36 : decode cX8_saysIn 36 = .ok (.iaload, 1) := by decide +kernel
theorem dX8_saysIn_37 : decode cX8_saysIn 37 = .ok (.if_icmp .ge 5, 3) := by decide +kernel
theorem dX8_saysIn_40 : decode cX8_saysIn 40 = .ok (.iload_n 2, 1) := by decide +kernel
theorem dX8_saysIn_41 : decode cX8_saysIn 41 = .ok (.ireturn, 1) := by decide +kernel
theorem dX8_saysIn_42 : decode cX8_saysIn 42 = .ok (.iinc 2 1, 3) := by decide +kernel
theorem dX8_saysIn_45 : decode cX8_saysIn 45 = .ok (.goto (-43), 3) := by decide +kernel
theorem dX8_saysIn_48 : decode cX8_saysIn 48 = .ok (.iconst (-1), 1) := by decide +kernel
theorem dX8_saysIn_49 : decode cX8_saysIn 49 = .ok (.ireturn, 1) := by decide +kernel
theorem dX8_hasIn_0 : decode cX8_hasIn 0 = .ok (.iconst 0, 1) := by decide +kernel
theorem dX8_hasIn_1 : decode cX8_hasIn 1 = .ok (.istore_n 2, 1) := by decide +kernel
theorem dX8_hasIn_2 : decode cX8_hasIn 2 = .ok (.iload_n 2, 1) := by decide +kernel
theorem dX8_hasIn_3 : decode cX8_hasIn 3 = .ok (.aload_n 0, 1) := by decide +kernel
theorem dX8_hasIn_4 : decode cX8_hasIn 4 = .ok (.getfield 128, 3) := by decide +kernel
theorem dX8_hasIn_7 : decode cX8_hasIn 7 = .ok (.if_icmp .ge 62, 3) := by decide +kernel
theorem dX8_hasIn_10 : decode cX8_hasIn 10 = .ok (.aload_n 0, 1) := by decide +kernel
theorem dX8_hasIn_11 : decode cX8_hasIn 11 = .ok (.getfield 55, 3) := by decide +kernel
theorem dX8_hasIn_14 : decode cX8_hasIn 14 = .ok (.iload_n 2, 1) := by decide +kernel
theorem dX8_hasIn_15 : decode cX8_hasIn 15 = .ok (.iaload, 1) := by decide +kernel
theorem dX8_hasIn_16 : decode cX8_hasIn 16 = .ok (.iconst (-1), 1) := by decide +kernel
theorem dX8_hasIn_17 : decode cX8_hasIn 17 = .ok (.if_icmp .ne 12, 3) := by decide +kernel
theorem dX8_hasIn_20 : decode cX8_hasIn 20 = .ok (.aload_n 0, 1) := by decide +kernel
theorem dX8_hasIn_21 : decode cX8_hasIn 21 = .ok (.getfield 52, 3) := by decide +kernel
theorem dX8_hasIn_24 : decode cX8_hasIn 24 = .ok (.iload_n 2, 1) := by decide +kernel
theorem dX8_hasIn_25 : decode cX8_hasIn 25 = .ok (.iaload, 1) := by decide +kernel
theorem dX8_hasIn_26 : decode cX8_hasIn 26 = .ok (.goto 9, 3) := by decide +kernel
theorem dX8_hasIn_29 : decode cX8_hasIn 29 = .ok (.aload_n 0, 1) := by decide +kernel
theorem dX8_hasIn_30 : decode cX8_hasIn 30 = .ok (.getfield 55, 3) := by decide +kernel
theorem dX8_hasIn_33 : decode cX8_hasIn 33 = .ok (.iload_n 2, 1) := by decide +kernel
theorem dX8_hasIn_34 : decode cX8_hasIn 34 = .ok (.iaload, 1) := by decide +kernel
theorem dX8_hasIn_35 : decode cX8_hasIn 35 = .ok (.istore_n 3, 1) := by decide +kernel
theorem dX8_hasIn_36 : decode cX8_hasIn 36 = .ok (.aload_n 0, 1) := by decide +kernel
theorem dX8_hasIn_37 : decode cX8_hasIn 37 = .ok (.getfield 46, 3) := by decide +kernel
theorem dX8_hasIn_40 : decode cX8_hasIn 40 = .ok (.iload_n 2, 1) := by decide +kernel
theorem dX8_hasIn_41 : decode cX8_hasIn 41 = .ok (.iaload, 1) := by decide +kernel
theorem dX8_hasIn_42 : decode cX8_hasIn 42 = .ok (.iconst (-1), 1) := by decide +kernel
theorem dX8_hasIn_43 : decode cX8_hasIn 43 = .ok (.if_icmp .eq 20, 3) := by decide +kernel
theorem dX8_hasIn_46 : decode cX8_hasIn 46 = .ok (.iload_n 1, 1) := by decide +kernel
theorem dX8_hasIn_47 : decode cX8_hasIn 47 = .ok (.aload_n 0, 1) := by decide +kernel
theorem dX8_hasIn_48 : decode cX8_hasIn 48 = .ok (.getfield 49, 3) := by decide +kernel
theorem dX8_hasIn_51 : decode cX8_hasIn 51 = .ok (.iload_n 2, 1) := by decide +kernel
theorem dX8_hasIn_52 : decode cX8_hasIn 52 = .ok (.iaload, 1) := by decide +kernel
theorem dX8_hasIn_53 : decode cX8_hasIn 53 = .ok (.if_icmp .lt 10, 3) := by decide +kernel
theorem dX8_hasIn_56 : decode cX8_hasIn 56 = .ok (.iload_n 1, 1) := by decide +kernel
theorem dX8_hasIn_57 : decode cX8_hasIn 57 = .ok (.iload_n 3, 1) := by decide +kernel
theorem dX8_hasIn_58 : decode cX8_hasIn 58 = .ok (.if_icmp .ge 5, 3) := by decide +kernel
theorem dX8_hasIn_61 : decode cX8_hasIn 61 = .ok (.iload_n 2, 1) := by decide +kernel
theorem dX8_hasIn_62 : decode cX8_hasIn 62 = .ok (.ireturn, 1) := by decide +kernel
theorem dX8_hasIn_63 : decode cX8_hasIn 63 = .ok (.iinc 2 1, 3) := by decide +kernel
theorem dX8_hasIn_66 : decode cX8_hasIn 66 = .ok (.goto (-64), 3) := by decide +kernel
theorem dX8_hasIn_69 : decode cX8_hasIn 69 = .ok (.iconst (-1), 1) := by decide +kernel
theorem dX8_hasIn_70 : decode cX8_hasIn 70 = .ok (.ireturn, 1) := by decide +kernel
theorem dX8_doingOf_0 : decode cX8_doingOf 0 = .ok (.iload_n 2, 1) := by decide +kernel
theorem dX8_doingOf_1 : decode cX8_doingOf 1 = .ok (.ifCond .ne 11, 3) := by decide +kernel
theorem dX8_doingOf_4 : decode cX8_doingOf 4 = .ok (.aload_n 0, 1) := by decide +kernel
theorem dX8_doingOf_5 : decode cX8_doingOf 5 = .ok (.iload_n 1, 1) := by decide +kernel
theorem dX8_doingOf_6 : decode cX8_doingOf 6 = .ok (.invokevirtual 192, 3) := by decide +kernel
theorem dX8_doingOf_9 : decode cX8_doingOf 9 = .ok (.goto 27, 3) := by decide +kernel
theorem dX8_doingOf_12 : decode cX8_doingOf 12 = .ok (.iload_n 2, 1) := by decide +kernel
theorem dX8_doingOf_13 : decode cX8_doingOf 13 = .ok (.iconst 1, 1) := by decide +kernel
theorem dX8_doingOf_14 : decode cX8_doingOf 14 = .ok (.if_icmp .ne 17, 3) := by decide +kernel
theorem dX8_doingOf_17 : decode cX8_doingOf 17 = .ok (.aload_n 0, 1) := by decide +kernel
theorem dX8_doingOf_18 : decode cX8_doingOf 18 = .ok (.aload_n 0, 1) := by decide +kernel
theorem dX8_doingOf_19 : decode cX8_doingOf 19 = .ok (.getfield 34, 3) := by decide +kernel
theorem dX8_doingOf_22 : decode cX8_doingOf 22 = .ok (.iconst 0, 1) := by decide +kernel
theorem dX8_doingOf_23 : decode cX8_doingOf 23 = .ok (.iaload, 1) := by decide +kernel
theorem dX8_doingOf_24 : decode cX8_doingOf 24 = .ok (.iload_n 1, 1) := by decide +kernel
theorem dX8_doingOf_25 : decode cX8_doingOf 25 = .ok (.invokevirtual 195, 3) := by decide +kernel
theorem dX8_doingOf_28 : decode cX8_doingOf 28 = .ok (.goto 8, 3) := by decide +kernel
theorem dX8_doingOf_31 : decode cX8_doingOf 31 = .ok (.aload_n 0, 1) := by decide +kernel
theorem dX8_doingOf_32 : decode cX8_doingOf 32 = .ok (.iload_n 1, 1) := by decide +kernel
theorem dX8_doingOf_33 : decode cX8_doingOf 33 = .ok (.invokevirtual 198, 3) := by decide +kernel
theorem dX8_doingOf_36 : decode cX8_doingOf 36 = .ok (.ireturn, 1) := by decide +kernel
theorem dX8_doing_0 : decode cX8_doing 0 = .ok (.aload_n 0, 1) := by decide +kernel
theorem dX8_doing_1 : decode cX8_doing 1 = .ok (.invokevirtual 162, 3) := by decide +kernel
theorem dX8_doing_4 : decode cX8_doing 4 = .ok (.iload_n 1, 1) := by decide +kernel
theorem dX8_doing_5 : decode cX8_doing 5 = .ok (.i2l, 1) := by decide +kernel
theorem dX8_doing_6 : decode cX8_doing 6 = .ok (.lconst 0, 1) := by decide +kernel
theorem dX8_doing_7 : decode cX8_doing 7 = .ok (.ldc2_w 201, 3) := by decide +kernel
theorem dX8_doing_10 : decode cX8_doing 10 = .ok (.invokestatic 72, 3) := by decide +kernel
theorem dX8_doing_13 : decode cX8_doing 13 = .ok (.ifCond .eq 24, 3) := by decide +kernel
theorem dX8_doing_16 : decode cX8_doing 16 = .ok (.iload_n 2, 1) := by decide +kernel
theorem dX8_doing_17 : decode cX8_doing 17 = .ok (.i2l, 1) := by decide +kernel
theorem dX8_doing_18 : decode cX8_doing 18 = .ok (.lconst 0, 1) := by decide +kernel
theorem dX8_doing_19 : decode cX8_doing 19 = .ok (.ldc2_w 86, 3) := by decide +kernel
theorem dX8_doing_22 : decode cX8_doing 22 = .ok (.invokestatic 72, 3) := by decide +kernel
theorem dX8_doing_25 : decode cX8_doing 25 = .ok (.ifCond .eq 12, 3) := by decide +kernel
theorem dX8_doing_28 : decode cX8_doing 28 = .ok (.aload_n 0, 1) := by decide +kernel
theorem dX8_doing_29 : decode cX8_doing 29 = .ok (.iload_n 1, 1) := by decide +kernel
theorem dX8_doing_30 : decode cX8_doing 30 = .ok (.iload_n 2, 1) := by decide +kernel
theorem dX8_doing_31 : decode cX8_doing 31 = .ok (.invokevirtual 203, 3) := by decide +kernel
theorem dX8_doing_34 : decode cX8_doing 34 = .ok (.goto 5, 3) := by decide +kernel
theorem dX8_doing_37 : decode cX8_doing 37 = .ok (.bipush (-2), 2) := by decide +kernel
theorem dX8_doing_39 : decode cX8_doing 39 = .ok (.ireturn, 1) := by decide +kernel
theorem dX8_lays_0 : decode cX8_lays 0 = .ok (.aload_n 0, 1) := by decide +kernel
theorem dX8_lays_1 : decode cX8_lays 1 = .ok (.iconst 0, 1) := by decide +kernel
theorem dX8_lays_2 : decode cX8_lays 2 = .ok (.putfield 128, 3) := by decide +kernel
theorem dX8_lays_5 : decode cX8_lays 5 = .ok (.iconst 0, 1) := by decide +kernel
theorem dX8_lays_6 : decode cX8_lays 6 = .ok (.istore 5, 2) := by decide +kernel
theorem dX8_lays_8 : decode cX8_lays 8 = .ok (.iload 5, 2) := by decide +kernel
theorem dX8_lays_10 : decode cX8_lays 10 = .ok (.aload_n 0, 1) := by decide +kernel
theorem dX8_lays_11 : decode cX8_lays 11 = .ok (.getfield 28, 3) := by decide +kernel
theorem dX8_lays_14 : decode cX8_lays 14 = .ok (.iconst 0, 1) := by decide +kernel
theorem dX8_lays_15 : decode cX8_lays 15 = .ok (.iaload, 1) := by decide +kernel
theorem dX8_lays_16 : decode cX8_lays 16 = .ok (.if_icmp .gt 100, 3) := by decide +kernel
theorem dX8_lays_19 : decode cX8_lays 19 = .ok (.iload 5, 2) := by decide +kernel
theorem dX8_lays_21 : decode cX8_lays 21 = .ok (.iload_n 1, 1) := by decide +kernel
theorem dX8_lays_22 : decode cX8_lays 22 = .ok (.if_icmp .ne 26, 3) := by decide +kernel
theorem dX8_lays_25 : decode cX8_lays 25 = .ok (.aload_n 0, 1) := by decide +kernel
theorem dX8_lays_26 : decode cX8_lays 26 = .ok (.getfield 37, 3) := by decide +kernel
theorem dX8_lays_29 : decode cX8_lays 29 = .ok (.aload_n 0, 1) := by decide +kernel
theorem dX8_lays_30 : decode cX8_lays 30 = .ok (.getfield 128, 3) := by decide +kernel
theorem dX8_lays_33 : decode cX8_lays 33 = .ok (.bipush 12, 2) := by decide +kernel
theorem dX8_lays_35 : decode cX8_lays 35 = .ok (.iload_n 2, 1) := by decide +kernel
theorem dX8_lays_36 : decode cX8_lays 36 = .ok (.iadd, 1) := by decide +kernel
theorem dX8_lays_37 : decode cX8_lays 37 = .ok (.iastore, 1) := by decide +kernel
theorem dX8_lays_38 : decode cX8_lays 38 = .ok (.aload_n 0, 1) := by decide +kernel
theorem dX8_lays_39 : decode cX8_lays 39 = .ok (.dup, 1) := by decide +kernel
theorem dX8_lays_40 : decode cX8_lays 40 = .ok (.getfield 128, 3) := by decide +kernel
theorem dX8_lays_43 : decode cX8_lays 43 = .ok (.iconst 1, 1) := by decide +kernel
theorem dX8_lays_44 : decode cX8_lays 44 = .ok (.iadd, 1) := by decide +kernel
theorem dX8_lays_45 : decode cX8_lays 45 = .ok (.putfield 128, 3) := by decide +kernel
theorem dX8_lays_48 : decode cX8_lays 48 = .ok (.iload 5, 2) := by decide +kernel
theorem dX8_lays_50 : decode cX8_lays 50 = .ok (.iload_n 3, 1) := by decide +kernel
theorem dX8_lays_51 : decode cX8_lays 51 = .ok (.if_icmp .ne 27, 3) := by decide +kernel
theorem dX8_lays_54 : decode cX8_lays 54 = .ok (.aload_n 0, 1) := by decide +kernel
theorem dX8_lays_55 : decode cX8_lays 55 = .ok (.getfield 37, 3) := by decide +kernel
theorem dX8_lays_58 : decode cX8_lays 58 = .ok (.aload_n 0, 1) := by decide +kernel
theorem dX8_lays_59 : decode cX8_lays 59 = .ok (.getfield 128, 3) := by decide +kernel
theorem dX8_lays_62 : decode cX8_lays 62 = .ok (.bipush 12, 2) := by decide +kernel
theorem dX8_lays_64 : decode cX8_lays 64 = .ok (.iload 4, 2) := by decide +kernel
theorem dX8_lays_66 : decode cX8_lays 66 = .ok (.iadd, 1) := by decide +kernel
theorem dX8_lays_67 : decode cX8_lays 67 = .ok (.iastore, 1) := by decide +kernel
theorem dX8_lays_68 : decode cX8_lays 68 = .ok (.aload_n 0, 1) := by decide +kernel
theorem dX8_lays_69 : decode cX8_lays 69 = .ok (.dup, 1) := by decide +kernel
theorem dX8_lays_70 : decode cX8_lays 70 = .ok (.getfield 128, 3) := by decide +kernel
theorem dX8_lays_73 : decode cX8_lays 73 = .ok (.iconst 1, 1) := by decide +kernel
theorem dX8_lays_74 : decode cX8_lays 74 = .ok (.iadd, 1) := by decide +kernel
theorem dX8_lays_75 : decode cX8_lays 75 = .ok (.putfield 128, 3) := by decide +kernel
theorem dX8_lays_78 : decode cX8_lays 78 = .ok (.iload 5, 2) := by decide +kernel
theorem dX8_lays_80 : decode cX8_lays 80 = .ok (.aload_n 0, 1) := by decide +kernel
theorem dX8_lays_81 : decode cX8_lays 81 = .ok (.getfield 28, 3) := by decide +kernel
theorem dX8_lays_84 : decode cX8_lays 84 = .ok (.iconst 0, 1) := by decide +kernel
theorem dX8_lays_85 : decode cX8_lays 85 = .ok (.iaload, 1) := by decide +kernel
theorem dX8_lays_86 : decode cX8_lays 86 = .ok (.if_icmp .ge 24, 3) := by decide +kernel
theorem dX8_lays_89 : decode cX8_lays 89 = .ok (.aload_n 0, 1) := by decide +kernel
theorem dX8_lays_90 : decode cX8_lays 90 = .ok (.getfield 37, 3) := by decide +kernel
theorem dX8_lays_93 : decode cX8_lays 93 = .ok (.aload_n 0, 1) := by decide +kernel
theorem dX8_lays_94 : decode cX8_lays 94 = .ok (.getfield 128, 3) := by decide +kernel
theorem dX8_lays_97 : decode cX8_lays 97 = .ok (.iload 5, 2) := by decide +kernel
theorem dX8_lays_99 : decode cX8_lays 99 = .ok (.iastore, 1) := by decide +kernel
theorem dX8_lays_100 : decode cX8_lays 100 = .ok (.aload_n 0, 1) := by decide +kernel
theorem dX8_lays_101 : decode cX8_lays 101 = .ok (.dup, 1) := by decide +kernel
theorem dX8_lays_102 : decode cX8_lays 102 = .ok (.getfield 128, 3) := by decide +kernel
theorem dX8_lays_105 : decode cX8_lays 105 = .ok (.iconst 1, 1) := by decide +kernel
theorem dX8_lays_106 : decode cX8_lays 106 = .ok (.iadd, 1) := by decide +kernel
theorem dX8_lays_107 : decode cX8_lays 107 = .ok (.putfield 128, 3) := by decide +kernel
theorem dX8_lays_110 : decode cX8_lays 110 = .ok (.iinc 5 1, 3) := by decide +kernel
theorem dX8_lays_113 : decode cX8_lays 113 = .ok (.goto (-105), 3) := by decide +kernel
theorem dX8_lays_116 : decode cX8_lays 116 = .ok (.return_, 1) := by decide +kernel
theorem dX8_looks_0 : decode cX8_looks 0 = .ok (.aload_n 0, 1) := by decide +kernel
theorem dX8_looks_1 : decode cX8_looks 1 = .ok (.iload_n 2, 1) := by decide +kernel
theorem dX8_looks_2 : decode cX8_looks 2 = .ok (.iload_n 3, 1) := by decide +kernel
theorem dX8_looks_3 : decode cX8_looks 3 = .ok (.iload 4, 2) := by decide +kernel
theorem dX8_looks_5 : decode cX8_looks 5 = .ok (.iload 5, 2) := by decide +kernel
theorem dX8_looks_7 : decode cX8_looks 7 = .ok (.invokevirtual 206, 3) := by decide +kernel
theorem dX8_looks_10 : decode cX8_looks 10 = .ok (.aload_n 0, 1) := by decide +kernel
theorem dX8_looks_11 : decode cX8_looks 11 = .ok (.aload_n 0, 1) := by decide +kernel
theorem dX8_looks_12 : decode cX8_looks 12 = .ok (.getfield 34, 3) := by decide +kernel
theorem dX8_looks_15 : decode cX8_looks 15 = .ok (.iconst 0, 1) := by decide +kernel
theorem dX8_looks_16 : decode cX8_looks 16 = .ok (.iaload, 1) := by decide +kernel
theorem dX8_looks_17 : decode cX8_looks 17 = .ok (.aload_n 0, 1) := by decide +kernel
theorem dX8_looks_18 : decode cX8_looks 18 = .ok (.getfield 34, 3) := by decide +kernel
theorem dX8_looks_21 : decode cX8_looks 21 = .ok (.iconst 4, 1) := by decide +kernel
theorem dX8_looks_22 : decode cX8_looks 22 = .ok (.iaload, 1) := by decide +kernel
theorem dX8_looks_23 : decode cX8_looks 23 = .ok (.aload_n 0, 1) := by decide +kernel
theorem dX8_looks_24 : decode cX8_looks 24 = .ok (.getfield 34, 3) := by decide +kernel
theorem dX8_looks_27 : decode cX8_looks 27 = .ok (.iconst 3, 1) := by decide +kernel
theorem dX8_looks_28 : decode cX8_looks 28 = .ok (.iaload, 1) := by decide +kernel
theorem dX8_looks_29 : decode cX8_looks 29 = .ok (.invokevirtual 158, 3) := by decide +kernel
theorem dX8_looks_32 : decode cX8_looks 32 = .ok (.aload_n 0, 1) := by decide +kernel
theorem dX8_looks_33 : decode cX8_looks 33 = .ok (.getfield 143, 3) := by decide +kernel
theorem dX8_looks_36 : decode cX8_looks 36 = .ok (.ifCond .ne 84, 3) := by decide +kernel
theorem dX8_looks_39 : decode cX8_looks 39 = .ok (.aload_n 0, 1) := by decide +kernel
theorem dX8_looks_40 : decode cX8_looks 40 = .ok (.getfield 146, 3) := by decide +kernel
theorem dX8_looks_43 : decode cX8_looks 43 = .ok (.aload_n 0, 1) := by decide +kernel
theorem dX8_looks_44 : decode cX8_looks 44 = .ok (.getfield 128, 3) := by decide +kernel
theorem dX8_looks_47 : decode cX8_looks 47 = .ok (.if_icmp .ne 73, 3) := by decide +kernel
theorem dX8_looks_50 : decode cX8_looks 50 = .ok (.aload_n 0, 1) := by decide +kernel
theorem dX8_looks_51 : decode cX8_looks 51 = .ok (.getfield 61, 3) := by decide +kernel
theorem dX8_looks_54 : decode cX8_looks 54 = .ok (.iconst 0, 1) := by decide +kernel
theorem dX8_looks_55 : decode cX8_looks 55 = .ok (.iaload, 1) := by decide +kernel
theorem dX8_looks_56 : decode cX8_looks 56 = .ok (.iconst (-1), 1) := by decide +kernel
theorem dX8_looks_57 : decode cX8_looks 57 = .ok (.if_icmp .eq 16, 3) := by decide +kernel
theorem dX8_looks_60 : decode cX8_looks 60 = .ok (.aload_n 0, 1) := by decide +kernel
theorem dX8_looks_61 : decode cX8_looks 61 = .ok (.getfield 140, 3) := by decide +kernel
theorem dX8_looks_64 : decode cX8_looks 64 = .ok (.aload_n 0, 1) := by decide +kernel
theorem dX8_looks_65 : decode cX8_looks 65 = .ok (.getfield 61, 3) := by decide +kernel
theorem dX8_looks_68 : decode cX8_looks 68 = .ok (.iconst 1, 1) := by decide +kernel
theorem dX8_looks_69 : decode cX8_looks 69 = .ok (.iaload, 1) := by decide +kernel
theorem dX8_looks_70 : decode cX8_looks 70 = .ok (.if_icmp .ge 50, 3) := by decide +kernel
theorem dX8_looks_73 : decode cX8_looks 73 = .ok (.aload_n 0, 1) := by decide +kernel
theorem dX8_looks_74 : decode cX8_looks 74 = .ok (.getfield 61, 3) := by decide +kernel
theorem dX8_looks_77 : decode cX8_looks 77 = .ok (.iconst 0, 1) := by decide +kernel
theorem dX8_looks_78 : decode cX8_looks 78 = .ok (.iload_n 1, 1) := by decide +kernel
theorem dX8_looks_79 : decode cX8_looks 79 = .ok (.iastore, 1) := by decide +kernel
theorem dX8_looks_80 : decode cX8_looks 80 = .ok (.aload_n 0, 1) := by decide +kernel
theorem dX8_looks_81 : decode cX8_looks 81 = .ok (.getfield 61, 3) := by decide +kernel
theorem dX8_looks_84 : decode cX8_looks 84 = .ok (.iconst 1, 1) := by decide +kernel
theorem dX8_looks_85 : decode cX8_looks 85 = .ok (.aload_n 0, 1) := by decide +kernel
theorem dX8_looks_86 : decode cX8_looks 86 = .ok (.getfield 140, 3) := by decide +kernel
theorem dX8_looks_89 : decode cX8_looks 89 = .ok (.iastore, 1) := by decide +kernel
theorem dX8_looks_90 : decode cX8_looks 90 = .ok (.aload_n 0, 1) := by decide +kernel
theorem dX8_looks_91 : decode cX8_looks 91 = .ok (.getfield 61, 3) := by decide +kernel
theorem dX8_looks_94 : decode cX8_looks 94 = .ok (.iconst 2, 1) := by decide +kernel
theorem dX8_looks_95 : decode cX8_looks 95 = .ok (.iload_n 2, 1) := by decide +kernel
theorem dX8_looks_96 : decode cX8_looks 96 = .ok (.iastore, 1) := by decide +kernel
theorem dX8_looks_97 : decode cX8_looks 97 = .ok (.aload_n 0, 1) := by decide +kernel
theorem dX8_looks_98 : decode cX8_looks 98 = .ok (.getfield 61, 3) := by decide +kernel
theorem dX8_looks_101 : decode cX8_looks 101 = .ok (.iconst 3, 1) := by decide +kernel
theorem dX8_looks_102 : decode cX8_looks 102 = .ok (.iload_n 3, 1) := by decide +kernel
theorem dX8_looks_103 : decode cX8_looks 103 = .ok (.iastore, 1) := by decide +kernel
theorem dX8_looks_104 : decode cX8_looks 104 = .ok (.aload_n 0, 1) := by decide +kernel
theorem dX8_looks_105 : decode cX8_looks 105 = .ok (.getfield 61, 3) := by decide +kernel
theorem dX8_looks_108 : decode cX8_looks 108 = .ok (.iconst 4, 1) := by decide +kernel
theorem dX8_looks_109 : decode cX8_looks 109 = .ok (.iload 4, 2) := by decide +kernel
theorem dX8_looks_111 : decode cX8_looks 111 = .ok (.iastore, 1) := by decide +kernel
theorem dX8_looks_112 : decode cX8_looks 112 = .ok (.aload_n 0, 1) := by decide +kernel
theorem dX8_looks_113 : decode cX8_looks 113 = .ok (.getfield 61, 3) := by decide +kernel
theorem dX8_looks_116 : decode cX8_looks 116 = .ok (.iconst 5, 1) := by decide +kernel
theorem dX8_looks_117 : decode cX8_looks 117 = .ok (.iload 5, 2) := by decide +kernel
theorem dX8_looks_119 : decode cX8_looks 119 = .ok (.iastore, 1) := by decide +kernel
theorem dX8_looks_120 : decode cX8_looks 120 = .ok (.return_, 1) := by decide +kernel
theorem dX8_findPut_0 : decode cX8_findPut 0 = .ok (.iconst 0, 1) := by decide +kernel
theorem dX8_findPut_1 : decode cX8_findPut 1 = .ok (.istore_n 1, 1) := by decide +kernel
theorem dX8_findPut_2 : decode cX8_findPut 2 = .ok (.iload_n 1, 1) := by decide +kernel
theorem dX8_findPut_3 : decode cX8_findPut 3 = .ok (.bipush 6, 2) := by decide +kernel
theorem dX8_findPut_5 : decode cX8_findPut 5 = .ok (.if_icmp .ge 16, 3) := by decide +kernel
theorem dX8_findPut_8 : decode cX8_findPut 8 = .ok (.aload_n 0, 1) := by decide +kernel
theorem dX8_findPut_9 : decode cX8_findPut 9 = .ok (.getfield 61, 3) := by decide +kernel
theorem dX8_findPut_12 : decode cX8_findPut 12 = .ok (.iload_n 1, 1) := by decide +kernel
theorem dX8_findPut_13 : decode cX8_findPut 13 = .ok (.iconst (-1), 1) := by decide +kernel
theorem dX8_findPut_14 : decode cX8_findPut 14 = .ok (.iastore, 1) := by decide +kernel
theorem dX8_findPut_15 : decode cX8_findPut 15 = .ok (.iinc 1 1, 3) := by decide +kernel
theorem dX8_findPut_18 : decode cX8_findPut 18 = .ok (.goto (-16), 3) := by decide +kernel
theorem dX8_findPut_21 : decode cX8_findPut 21 = .ok (.aload_n 0, 1) := by decide +kernel
theorem dX8_findPut_22 : decode cX8_findPut 22 = .ok (.iconst 0, 1) := by decide +kernel
theorem dX8_findPut_23 : decode cX8_findPut 23 = .ok (.iconst (-1), 1) := by decide +kernel
theorem dX8_findPut_24 : decode cX8_findPut 24 = .ok (.iconst (-1), 1) := by decide +kernel
theorem dX8_findPut_25 : decode cX8_findPut 25 = .ok (.iconst (-1), 1) := by decide +kernel
theorem dX8_findPut_26 : decode cX8_findPut 26 = .ok (.iconst (-1), 1) := by decide +kernel
theorem dX8_findPut_27 : decode cX8_findPut 27 = .ok (.invokevirtual 210, 3) := by decide +kernel
theorem dX8_findPut_30 : decode cX8_findPut 30 = .ok (.iconst 0, 1) := by decide +kernel
theorem dX8_findPut_31 : decode cX8_findPut 31 = .ok (.istore_n 1, 1) := by decide +kernel
theorem dX8_findPut_32 : decode cX8_findPut 32 = .ok (.iload_n 1, 1) := by decide +kernel
theorem dX8_findPut_33 : decode cX8_findPut 33 = .ok (.aload_n 0, 1) := by decide +kernel
theorem dX8_findPut_34 : decode cX8_findPut 34 = .ok (.getfield 28, 3) := by decide +kernel
theorem dX8_findPut_37 : decode cX8_findPut 37 = .ok (.iconst 0, 1) := by decide +kernel
theorem dX8_findPut_38 : decode cX8_findPut 38 = .ok (.iaload, 1) := by decide +kernel
theorem dX8_findPut_39 : decode cX8_findPut 39 = .ok (.if_icmp .gt 45, 3) := by decide +kernel
theorem dX8_findPut_42 : decode cX8_findPut 42 = .ok (.aload_n 0, 1) := by decide +kernel
theorem dX8_findPut_43 : decode cX8_findPut 43 = .ok (.getfield 61, 3) := by decide +kernel
theorem dX8_findPut_46 : decode cX8_findPut 46 = .ok (.iconst 0, 1) := by decide +kernel
theorem dX8_findPut_47 : decode cX8_findPut 47 = .ok (.iaload, 1) := by decide +kernel
theorem dX8_findPut_48 : decode cX8_findPut 48 = .ok (.ifCond .eq 36, 3) := by decide +kernel
theorem dX8_findPut_51 : decode cX8_findPut 51 = .ok (.iconst 0, 1) := by decide +kernel
theorem dX8_findPut_52 : decode cX8_findPut 52 = .ok (.istore_n 2, 1) := by decide +kernel
theorem dX8_findPut_53 : decode cX8_findPut 53 = .ok (.iload_n 2, 1) := by decide +kernel
theorem dX8_findPut_54 : decode cX8_findPut 54 = .ok (.aload_n 0, 1) := by decide +kernel
theorem dX8_findPut_55 : decode cX8_findPut 55 = .ok (.getfield 28, 3) := by decide +kernel
theorem dX8_findPut_58 : decode cX8_findPut 58 = .ok (.iconst 1, 1) := by decide +kernel
theorem dX8_findPut_59 : decode cX8_findPut 59 = .ok (.iaload, 1) := by decide +kernel
theorem dX8_findPut_60 : decode cX8_findPut 60 = .ok (.if_icmp .ge 18, 3) := by decide +kernel
theorem dX8_findPut_63 : decode cX8_findPut 63 = .ok (.aload_n 0, 1) := by decide +kernel
theorem dX8_findPut_64 : decode cX8_findPut 64 = .ok (.iconst 1, 1) := by decide +kernel
theorem dX8_findPut_65 : decode cX8_findPut 65 = .ok (.iload_n 1, 1) := by decide +kernel
theorem dX8_findPut_66 : decode cX8_findPut 66 = .ok (.iload_n 2, 1) := by decide +kernel
theorem dX8_findPut_67 : decode cX8_findPut 67 = .ok (.iconst (-1), 1) := by decide +kernel
theorem dX8_findPut_68 : decode cX8_findPut 68 = .ok (.iconst (-1), 1) := by decide +kernel
theorem dX8_findPut_69 : decode cX8_findPut 69 = .ok (.invokevirtual 210, 3) := by decide +kernel
theorem dX8_findPut_72 : decode cX8_findPut 72 = .ok (.iinc 2 1, 3) := by decide +kernel
theorem dX8_findPut_75 : decode cX8_findPut 75 = .ok (.goto (-22), 3) := by decide +kernel
theorem dX8_findPut_78 : decode cX8_findPut 78 = .ok (.iinc 1 1, 3) := by decide +kernel
theorem dX8_findPut_81 : decode cX8_findPut 81 = .ok (.goto (-49), 3) := by decide +kernel
theorem dX8_findPut_84 : decode cX8_findPut 84 = .ok (.aload_n 0, 1) := by decide +kernel
theorem dX8_findPut_85 : decode cX8_findPut 85 = .ok (.getfield 61, 3) := by decide +kernel
theorem dX8_findPut_88 : decode cX8_findPut 88 = .ok (.iconst 0, 1) := by decide +kernel
theorem dX8_findPut_89 : decode cX8_findPut 89 = .ok (.iaload, 1) := by decide +kernel
theorem dX8_findPut_90 : decode cX8_findPut 90 = .ok (.iconst (-1), 1) := by decide +kernel
theorem dX8_findPut_91 : decode cX8_findPut 91 = .ok (.if_icmp .ne 7, 3) := by decide +kernel
theorem dX8_findPut_94 : decode cX8_findPut 94 = .ok (.iconst 1, 1) := by decide +kernel
theorem dX8_findPut_95 : decode cX8_findPut 95 = .ok (.goto 4, 3) := by decide +kernel
theorem dX8_findPut_98 : decode cX8_findPut 98 = .ok (.iconst 0, 1) := by decide +kernel
theorem dX8_findPut_99 : decode cX8_findPut 99 = .ok (.istore_n 1, 1) := by decide +kernel
theorem dX8_findPut_100 : decode cX8_findPut 100 = .ok (.iconst 0, 1) := by decide +kernel
theorem dX8_findPut_101 : decode cX8_findPut 101 = .ok (.istore_n 2, 1) := by decide +kernel
theorem dX8_findPut_102 : decode cX8_findPut 102 = .ok (.iload_n 2, 1) := by decide +kernel
theorem dX8_findPut_103 : decode cX8_findPut 103 = .ok (.aload_n 0, 1) := by decide +kernel
theorem dX8_findPut_104 : decode cX8_findPut 104 = .ok (.getfield 28, 3) := by decide +kernel
theorem dX8_findPut_107 : decode cX8_findPut 107 = .ok (.iconst 0, 1) := by decide +kernel
theorem dX8_findPut_108 : decode cX8_findPut 108 = .ok (.iaload, 1) := by decide +kernel
theorem dX8_findPut_109 : decode cX8_findPut 109 = .ok (.if_icmp .gt 83, 3) := by decide +kernel
theorem dX8_findPut_112 : decode cX8_findPut 112 = .ok (.iload_n 1, 1) := by decide +kernel
theorem dX8_findPut_113 : decode cX8_findPut 113 = .ok (.ifCond .eq 79, 3) := by decide +kernel
theorem dX8_findPut_116 : decode cX8_findPut 116 = .ok (.iload_n 2, 1) := by decide +kernel
theorem dX8_findPut_117 : decode cX8_findPut 117 = .ok (.istore_n 3, 1) := by decide +kernel
theorem dX8_findPut_118 : decode cX8_findPut 118 = .ok (.iload_n 3, 1) := by decide +kernel
theorem dX8_findPut_119 : decode cX8_findPut 119 = .ok (.aload_n 0, 1) := by decide +kernel
theorem dX8_findPut_120 : decode cX8_findPut 120 = .ok (.getfield 28, 3) := by decide +kernel
theorem dX8_findPut_123 : decode cX8_findPut 123 = .ok (.iconst 0, 1) := by decide +kernel
theorem dX8_findPut_124 : decode cX8_findPut 124 = .ok (.iaload, 1) := by decide +kernel
theorem dX8_findPut_125 : decode cX8_findPut 125 = .ok (.if_icmp .gt 61, 3) := by decide +kernel
theorem dX8_findPut_128 : decode cX8_findPut 128 = .ok (.iconst 0, 1) := by decide +kernel
theorem dX8_findPut_129 : decode cX8_findPut 129 = .ok (.istore 4, 2) := by decide +kernel
theorem dX8_findPut_131 : decode cX8_findPut 131 = .ok (.iload 4, 2) := by decide +kernel
theorem dX8_findPut_133 : decode cX8_findPut 133 = .ok (.aload_n 0, 1) := by decide +kernel
theorem dX8_findPut_134 : decode cX8_findPut 134 = .ok (.getfield 28, 3) := by decide +kernel
theorem dX8_findPut_137 : decode cX8_findPut 137 = .ok (.iconst 1, 1) := by decide +kernel
theorem dX8_findPut_138 : decode cX8_findPut 138 = .ok (.iaload, 1) := by decide +kernel
theorem dX8_findPut_139 : decode cX8_findPut 139 = .ok (.aload_n 0, 1) := by decide +kernel
theorem dX8_findPut_140 : decode cX8_findPut 140 = .ok (.getfield 28, 3) := by decide +kernel
theorem dX8_findPut_143 : decode cX8_findPut 143 = .ok (.iconst 1, 1) := by decide +kernel
theorem dX8_findPut_144 : decode cX8_findPut 144 = .ok (.iaload, 1) := by decide +kernel
theorem dX8_findPut_145 : decode cX8_findPut 145 = .ok (.imul, 1) := by decide +kernel
theorem dX8_findPut_146 : decode cX8_findPut 146 = .ok (.if_icmp .ge 34, 3) := by decide +kernel
theorem dX8_findPut_149 : decode cX8_findPut 149 = .ok (.aload_n 0, 1) := by decide +kernel
theorem dX8_findPut_150 : decode cX8_findPut 150 = .ok (.iconst 2, 1) := by decide +kernel
theorem dX8_findPut_151 : decode cX8_findPut 151 = .ok (.iload_n 2, 1) := by decide +kernel
theorem dX8_findPut_152 : decode cX8_findPut 152 = .ok (.iload 4, 2) := by decide +kernel
theorem dX8_findPut_154 : decode cX8_findPut 154 = .ok (.aload_n 0, 1) := by decide +kernel
theorem dX8_findPut_155 : decode cX8_findPut 155 = .ok (.getfield 28, 3) := by decide +kernel
theorem dX8_findPut_158 : decode cX8_findPut 158 = .ok (.iconst 1, 1) := by decide +kernel
theorem dX8_findPut_159 : decode cX8_findPut 159 = .ok (.iaload, 1) := by decide +kernel
theorem dX8_findPut_160 : decode cX8_findPut 160 = .ok (.idiv, 1) := by decide +kernel
theorem dX8_findPut_161 : decode cX8_findPut 161 = .ok (.iload_n 3, 1) := by decide +kernel
theorem dX8_findPut_162 : decode cX8_findPut 162 = .ok (.iload 4, 2) := by decide +kernel
theorem dX8_findPut_164 : decode cX8_findPut 164 = .ok (.aload_n 0, 1) := by decide +kernel
theorem dX8_findPut_165 : decode cX8_findPut 165 = .ok (.getfield 28, 3) := by decide +kernel
theorem dX8_findPut_168 : decode cX8_findPut 168 = .ok (.iconst 1, 1) := by decide +kernel
theorem dX8_findPut_169 : decode cX8_findPut 169 = .ok (.iaload, 1) := by decide +kernel
theorem dX8_findPut_170 : decode cX8_findPut 170 = .ok (.irem, 1) := by decide +kernel
theorem dX8_findPut_171 : decode cX8_findPut 171 = .ok (.invokevirtual 210, 3) := by decide +kernel
theorem dX8_findPut_174 : decode cX8_findPut 174 = .ok (.iinc 4 1, 3) := by decide +kernel
theorem dX8_findPut_177 : decode cX8_findPut 177 = .ok (.goto (-46), 3) := by decide +kernel
theorem dX8_findPut_180 : decode cX8_findPut 180 = .ok (.iinc 3 1, 3) := by decide +kernel
theorem dX8_findPut_183 : decode cX8_findPut 183 = .ok (.goto (-65), 3) := by decide +kernel
theorem dX8_findPut_186 : decode cX8_findPut 186 = .ok (.iinc 2 1, 3) := by decide +kernel
theorem dX8_findPut_189 : decode cX8_findPut 189 = .ok (.goto (-87), 3) := by decide +kernel
theorem dX8_findPut_192 : decode cX8_findPut 192 = .ok (.return_, 1) := by decide +kernel
theorem dX8_put_0 : decode cX8_put 0 = .ok (.iload_n 1, 1) := by decide +kernel
theorem dX8_put_1 : decode cX8_put 1 = .ok (.i2l, 1) := by decide +kernel
theorem dX8_put_2 : decode cX8_put 2 = .ok (.lconst 0, 1) := by decide +kernel
theorem dX8_put_3 : decode cX8_put 3 = .ok (.ldc2_w 123, 3) := by decide +kernel
theorem dX8_put_6 : decode cX8_put 6 = .ok (.invokestatic 72, 3) := by decide +kernel
theorem dX8_put_9 : decode cX8_put 9 = .ok (.ifCond .ne 6, 3) := by decide +kernel
theorem dX8_put_12 : decode cX8_put 12 = .ok (.bipush (-2), 2) := by decide +kernel
theorem dX8_put_14 : decode cX8_put 14 = .ok (.ireturn, 1) := by decide +kernel
theorem dX8_put_15 : decode cX8_put 15 = .ok (.aload_n 0, 1) := by decide +kernel
theorem dX8_put_16 : decode cX8_put 16 = .ok (.invokevirtual 162, 3) := by decide +kernel
theorem dX8_put_19 : decode cX8_put 19 = .ok (.aload_n 0, 1) := by decide +kernel
theorem dX8_put_20 : decode cX8_put 20 = .ok (.invokevirtual 214, 3) := by decide +kernel
theorem dX8_put_23 : decode cX8_put 23 = .ok (.aload_n 0, 1) := by decide +kernel
theorem dX8_put_24 : decode cX8_put 24 = .ok (.getfield 61, 3) := by decide +kernel
theorem dX8_put_27 : decode cX8_put 27 = .ok (.iload_n 1, 1) := by decide +kernel
theorem dX8_put_28 : decode cX8_put 28 = .ok (.iaload, 1) := by decide +kernel
theorem dX8_put_29 : decode cX8_put 29 = .ok (.ireturn, 1) := by decide +kernel
theorem dX8_unfolds_0 : decode cX8_unfolds 0 = .ok (.iload_n 2, 1) := by decide +kernel
theorem dX8_unfolds_1 : decode cX8_unfolds 1 = .ok (.istore_n 3, 1) := by decide +kernel
theorem dX8_unfolds_2 : decode cX8_unfolds 2 = .ok (.iload_n 1, 1) := by decide +kernel
theorem dX8_unfolds_3 : decode cX8_unfolds 3 = .ok (.iconst 1, 1) := by decide +kernel
theorem dX8_unfolds_4 : decode cX8_unfolds 4 = .ok (.isub, 1) := by decide +kernel
theorem dX8_unfolds_5 : decode cX8_unfolds 5 = .ok (.istore 4, 2) := by decide +kernel
theorem dX8_unfolds_7 : decode cX8_unfolds 7 = .ok (.iload 4, 2) := by decide +kernel
theorem dX8_unfolds_9 : decode cX8_unfolds 9 = .ok (.ifCond .lt 29, 3) := by decide +kernel
theorem dX8_unfolds_12 : decode cX8_unfolds 12 = .ok (.aload_n 0, 1) := by decide +kernel
theorem dX8_unfolds_13 : decode cX8_unfolds 13 = .ok (.getfield 37, 3) := by decide +kernel
theorem dX8_unfolds_16 : decode cX8_unfolds 16 = .ok (.iload 4, 2) := by decide +kernel
theorem dX8_unfolds_18 : decode cX8_unfolds 18 = .ok (.iload_n 3, 1) := by decide +kernel
theorem dX8_unfolds_19 : decode cX8_unfolds 19 = .ok (.iload_n 1, 1) := by decide +kernel
theorem dX8_unfolds_20 : decode cX8_unfolds 20 = .ok (.iload 4, 2) := by decide +kernel
theorem dX8_unfolds_22 : decode cX8_unfolds 22 = .ok (.isub, 1) := by decide +kernel
theorem dX8_unfolds_23 : decode cX8_unfolds 23 = .ok (.irem, 1) := by decide +kernel
theorem dX8_unfolds_24 : decode cX8_unfolds 24 = .ok (.iastore, 1) := by decide +kernel
theorem dX8_unfolds_25 : decode cX8_unfolds 25 = .ok (.iload_n 3, 1) := by decide +kernel
theorem dX8_unfolds_26 : decode cX8_unfolds 26 = .ok (.iload_n 1, 1) := by decide +kernel
theorem dX8_unfolds_27 : decode cX8_unfolds 27 = .ok (.iload 4, 2) := by decide +kernel
theorem dX8_unfolds_29 : decode cX8_unfolds 29 = .ok (.isub, 1) := by decide +kernel
theorem dX8_unfolds_30 : decode cX8_unfolds 30 = .ok (.idiv, 1) := by decide +kernel
theorem dX8_unfolds_31 : decode cX8_unfolds 31 = .ok (.istore_n 3, 1) := by decide +kernel
theorem dX8_unfolds_32 : decode cX8_unfolds 32 = .ok (.iinc 4 (-1), 3) := by decide +kernel
theorem dX8_unfolds_35 : decode cX8_unfolds 35 = .ok (.goto (-28), 3) := by decide +kernel
theorem dX8_unfolds_38 : decode cX8_unfolds 38 = .ok (.iload_n 1, 1) := by decide +kernel
theorem dX8_unfolds_39 : decode cX8_unfolds 39 = .ok (.iconst 1, 1) := by decide +kernel
theorem dX8_unfolds_40 : decode cX8_unfolds 40 = .ok (.isub, 1) := by decide +kernel
theorem dX8_unfolds_41 : decode cX8_unfolds 41 = .ok (.istore 4, 2) := by decide +kernel
theorem dX8_unfolds_43 : decode cX8_unfolds 43 = .ok (.iload 4, 2) := by decide +kernel
theorem dX8_unfolds_45 : decode cX8_unfolds 45 = .ok (.ifCond .lt 59, 3) := by decide +kernel
theorem dX8_unfolds_48 : decode cX8_unfolds 48 = .ok (.iload 4, 2) := by decide +kernel
theorem dX8_unfolds_50 : decode cX8_unfolds 50 = .ok (.iconst 1, 1) := by decide +kernel
theorem dX8_unfolds_51 : decode cX8_unfolds 51 = .ok (.iadd, 1) := by decide +kernel
theorem dX8_unfolds_52 : decode cX8_unfolds 52 = .ok (.istore 5, 2) := by decide +kernel
theorem dX8_unfolds_54 : decode cX8_unfolds 54 = .ok (.iload 5, 2) := by decide +kernel
theorem dX8_unfolds_56 : decode cX8_unfolds 56 = .ok (.iload_n 1, 1) := by decide +kernel
theorem dX8_unfolds_57 : decode cX8_unfolds 57 = .ok (.if_icmp .ge 41, 3) := by decide +kernel
theorem dX8_unfolds_60 : decode cX8_unfolds 60 = .ok (.aload_n 0, 1) := by decide +kernel
theorem dX8_unfolds_61 : decode cX8_unfolds 61 = .ok (.getfield 37, 3) := by decide +kernel
theorem dX8_unfolds_64 : decode cX8_unfolds 64 = .ok (.iload 5, 2) := by decide +kernel
theorem dX8_unfolds_66 : decode cX8_unfolds 66 = .ok (.dup2, 1) := by decide +kernel
theorem dX8_unfolds_67 : decode cX8_unfolds 67 = .ok (.iaload, 1) := by decide +kernel
theorem dX8_unfolds_68 : decode cX8_unfolds 68 = .ok (.aload_n 0, 1) := by decide +kernel
theorem dX8_unfolds_69 : decode cX8_unfolds 69 = .ok (.getfield 37, 3) := by decide +kernel
theorem dX8_unfolds_72 : decode cX8_unfolds 72 = .ok (.iload 5, 2) := by decide +kernel
theorem dX8_unfolds_74 : decode cX8_unfolds 74 = .ok (.iaload, 1) := by decide +kernel
theorem dX8_unfolds_75 : decode cX8_unfolds 75 = .ok (.aload_n 0, 1) := by decide +kernel
theorem dX8_unfolds_76 : decode cX8_unfolds 76 = .ok (.getfield 37, 3) := by decide +kernel
theorem dX8_unfolds_79 : decode cX8_unfolds 79 = .ok (.iload 4, 2) := by decide +kernel
theorem dX8_unfolds_81 : decode cX8_unfolds 81 = .ok (.iaload, 1) := by decide +kernel
theorem dX8_unfolds_82 : decode cX8_unfolds 82 = .ok (.if_icmp .lt 7, 3) := by decide +kernel
theorem dX8_unfolds_85 : decode cX8_unfolds 85 = .ok (.iconst 1, 1) := by decide +kernel
theorem dX8_unfolds_86 : decode cX8_unfolds 86 = .ok (.goto 4, 3) := by decide +kernel
theorem dX8_unfolds_89 : decode cX8_unfolds 89 = .ok (.iconst 0, 1) := by decide +kernel
theorem dX8_unfolds_90 : decode cX8_unfolds 90 = .ok (.iadd, 1) := by decide +kernel
theorem dX8_unfolds_91 : decode cX8_unfolds 91 = .ok (.iastore, 1) := by decide +kernel
theorem dX8_unfolds_92 : decode cX8_unfolds 92 = .ok (.iinc 5 1, 3) := by decide +kernel
theorem dX8_unfolds_95 : decode cX8_unfolds 95 = .ok (.goto (-41), 3) := by decide +kernel
theorem dX8_unfolds_98 : decode cX8_unfolds 98 = .ok (.iinc 4 (-1), 3) := by decide +kernel
theorem dX8_unfolds_101 : decode cX8_unfolds 101 = .ok (.goto (-58), 3) := by decide +kernel
theorem dX8_unfolds_104 : decode cX8_unfolds 104 = .ok (.return_, 1) := by decide +kernel
theorem dX8_findOrder_0 : decode cX8_findOrder 0 = .ok (.aload_n 0, 1) := by decide +kernel
theorem dX8_findOrder_1 : decode cX8_findOrder 1 = .ok (.getfield 28, 3) := by decide +kernel
theorem dX8_findOrder_4 : decode cX8_findOrder 4 = .ok (.iconst 0, 1) := by decide +kernel
theorem dX8_findOrder_5 : decode cX8_findOrder 5 = .ok (.iaload, 1) := by decide +kernel
theorem dX8_findOrder_6 : decode cX8_findOrder 6 = .ok (.bipush 7, 2) := by decide +kernel
theorem dX8_findOrder_8 : decode cX8_findOrder 8 = .ok (.invokestatic 217, 3) := by decide +kernel
theorem dX8_findOrder_11 : decode cX8_findOrder 11 = .ok (.istore_n 1, 1) := by decide +kernel
theorem dX8_findOrder_12 : decode cX8_findOrder 12 = .ok (.iconst 1, 1) := by decide +kernel
theorem dX8_findOrder_13 : decode cX8_findOrder 13 = .ok (.istore_n 2, 1) := by decide +kernel
theorem dX8_findOrder_14 : decode cX8_findOrder 14 = .ok (.iconst 2, 1) := by decide +kernel
theorem dX8_findOrder_15 : decode cX8_findOrder 15 = .ok (.istore_n 3, 1) := by decide +kernel
theorem dX8_findOrder_16 : decode cX8_findOrder 16 = .ok (.iload_n 3, 1) := by decide +kernel
theorem dX8_findOrder_17 : decode cX8_findOrder 17 = .ok (.iload_n 1, 1) := by decide +kernel
theorem dX8_findOrder_18 : decode cX8_findOrder 18 = .ok (.if_icmp .gt 13, 3) := by decide +kernel
theorem dX8_findOrder_21 : decode cX8_findOrder 21 = .ok (.iload_n 2, 1) := by decide +kernel
theorem dX8_findOrder_22 : decode cX8_findOrder 22 = .ok (.iload_n 3, 1) := by decide +kernel
theorem dX8_findOrder_23 : decode cX8_findOrder 23 = .ok (.imul, 1) := by decide +kernel
theorem dX8_findOrder_24 : decode cX8_findOrder 24 = .ok (.istore_n 2, 1) := by decide +kernel
theorem dX8_findOrder_25 : decode cX8_findOrder 25 = .ok (.iinc 3 1, 3) := by decide +kernel
theorem dX8_findOrder_28 : decode cX8_findOrder 28 = .ok (.goto (-12), 3) := by decide +kernel
theorem dX8_findOrder_31 : decode cX8_findOrder 31 = .ok (.aload_n 0, 1) := by decide +kernel
theorem dX8_findOrder_32 : decode cX8_findOrder 32 = .ok (.iconst (-1), 1) := by decide +kernel
theorem dX8_findOrder_33 : decode cX8_findOrder 33 = .ok (.putfield 220, 3) := by decide +kernel
theorem dX8_findOrder_36 : decode cX8_findOrder 36 = .ok (.aload_n 0, 1) := by decide +kernel
theorem dX8_findOrder_37 : decode cX8_findOrder 37 = .ok (.iconst 0, 1) := by decide +kernel
theorem dX8_findOrder_38 : decode cX8_findOrder 38 = .ok (.putfield 223, 3) := by decide +kernel
theorem dX8_findOrder_41 : decode cX8_findOrder 41 = .ok (.iconst 0, 1) := by decide +kernel
theorem dX8_findOrder_42 : decode cX8_findOrder 42 = .ok (.istore_n 3, 1) := by decide +kernel
theorem dX8_findOrder_43 : decode cX8_findOrder 43 = .ok (.iload_n 3, 1) := by decide +kernel
theorem dX8_findOrder_44 : decode cX8_findOrder 44 = .ok (.iload_n 2, 1) := by decide +kernel
theorem dX8_findOrder_45 : decode cX8_findOrder 45 = .ok (.if_icmp .ge 131, 3) := by decide +kernel
theorem dX8_findOrder_48 : decode cX8_findOrder 48 = .ok (.aload_n 0, 1) := by decide +kernel
theorem dX8_findOrder_49 : decode cX8_findOrder 49 = .ok (.iload_n 1, 1) := by decide +kernel
theorem dX8_findOrder_50 : decode cX8_findOrder 50 = .ok (.iload_n 3, 1) := by decide +kernel
theorem dX8_findOrder_51 : decode cX8_findOrder 51 = .ok (.invokevirtual 226, 3) := by decide +kernel
theorem dX8_findOrder_54 : decode cX8_findOrder 54 = .ok (.aload_n 0, 1) := by decide +kernel
theorem dX8_findOrder_55 : decode cX8_findOrder 55 = .ok (.iload_n 1, 1) := by decide +kernel
theorem dX8_findOrder_56 : decode cX8_findOrder 56 = .ok (.putfield 128, 3) := by decide +kernel
theorem dX8_findOrder_59 : decode cX8_findOrder 59 = .ok (.aload_n 0, 1) := by decide +kernel
theorem dX8_findOrder_60 : decode cX8_findOrder 60 = .ok (.aload_n 0, 1) := by decide +kernel
theorem dX8_findOrder_61 : decode cX8_findOrder 61 = .ok (.getfield 34, 3) := by decide +kernel
theorem dX8_findOrder_64 : decode cX8_findOrder 64 = .ok (.iconst 0, 1) := by decide +kernel
theorem dX8_findOrder_65 : decode cX8_findOrder 65 = .ok (.iaload, 1) := by decide +kernel
theorem dX8_findOrder_66 : decode cX8_findOrder 66 = .ok (.iconst 0, 1) := by decide +kernel
theorem dX8_findOrder_67 : decode cX8_findOrder 67 = .ok (.bipush 99, 2) := by decide +kernel
theorem dX8_findOrder_69 : decode cX8_findOrder 69 = .ok (.invokevirtual 158, 3) := by decide +kernel
theorem dX8_findOrder_72 : decode cX8_findOrder 72 = .ok (.aload_n 0, 1) := by decide +kernel
theorem dX8_findOrder_73 : decode cX8_findOrder 73 = .ok (.getfield 143, 3) := by decide +kernel
theorem dX8_findOrder_76 : decode cX8_findOrder 76 = .ok (.aload_n 0, 1) := by decide +kernel
theorem dX8_findOrder_77 : decode cX8_findOrder 77 = .ok (.getfield 220, 3) := by decide +kernel
theorem dX8_findOrder_80 : decode cX8_findOrder 80 = .ok (.if_icmp .lt 25, 3) := by decide +kernel
theorem dX8_findOrder_83 : decode cX8_findOrder 83 = .ok (.aload_n 0, 1) := by decide +kernel
theorem dX8_findOrder_84 : decode cX8_findOrder 84 = .ok (.getfield 143, 3) := by decide +kernel
theorem dX8_findOrder_87 : decode cX8_findOrder 87 = .ok (.aload_n 0, 1) := by decide +kernel
theorem dX8_findOrder_88 : decode cX8_findOrder 88 = .ok (.getfield 220, 3) := by decide +kernel
theorem dX8_findOrder_91 : decode cX8_findOrder 91 = .ok (.if_icmp .ne 18, 3) := by decide +kernel
theorem dX8_findOrder_94 : decode cX8_findOrder 94 = .ok (.aload_n 0, 1) := by decide +kernel
theorem dX8_findOrder_95 : decode cX8_findOrder 95 = .ok (.getfield 140, 3) := by decide +kernel
theorem dX8_findOrder_98 : decode cX8_findOrder 98 = .ok (.aload_n 0, 1) := by decide +kernel
theorem dX8_findOrder_99 : decode cX8_findOrder 99 = .ok (.getfield 223, 3) := by decide +kernel
theorem dX8_findOrder_102 : decode cX8_findOrder 102 = .ok (.if_icmp .ge 7, 3) := by decide +kernel
theorem dX8_findOrder_105 : decode cX8_findOrder 105 = .ok (.iconst 1, 1) := by decide +kernel
theorem dX8_findOrder_106 : decode cX8_findOrder 106 = .ok (.goto 4, 3) := by decide +kernel
theorem dX8_findOrder_109 : decode cX8_findOrder 109 = .ok (.iconst 0, 1) := by decide +kernel
theorem dX8_findOrder_110 : decode cX8_findOrder 110 = .ok (.istore 4, 2) := by decide +kernel
theorem dX8_findOrder_112 : decode cX8_findOrder 112 = .ok (.aload_n 0, 1) := by decide +kernel
theorem dX8_findOrder_113 : decode cX8_findOrder 113 = .ok (.getfield 220, 3) := by decide +kernel
theorem dX8_findOrder_116 : decode cX8_findOrder 116 = .ok (.iconst (-1), 1) := by decide +kernel
theorem dX8_findOrder_117 : decode cX8_findOrder 117 = .ok (.if_icmp .eq 8, 3) := by decide +kernel
theorem dX8_findOrder_120 : decode cX8_findOrder 120 = .ok (.iload 4, 2) := by decide +kernel
theorem dX8_findOrder_122 : decode cX8_findOrder 122 = .ok (.ifCond .eq 48, 3) := by decide +kernel
theorem dX8_findOrder_125 : decode cX8_findOrder 125 = .ok (.aload_n 0, 1) := by decide +kernel
theorem dX8_findOrder_126 : decode cX8_findOrder 126 = .ok (.aload_n 0, 1) := by decide +kernel
theorem dX8_findOrder_127 : decode cX8_findOrder 127 = .ok (.getfield 143, 3) := by decide +kernel
theorem dX8_findOrder_130 : decode cX8_findOrder 130 = .ok (.putfield 220, 3) := by decide +kernel
theorem dX8_findOrder_133 : decode cX8_findOrder 133 = .ok (.aload_n 0, 1) := by decide +kernel
theorem dX8_findOrder_134 : decode cX8_findOrder 134 = .ok (.aload_n 0, 1) := by decide +kernel
theorem dX8_findOrder_135 : decode cX8_findOrder 135 = .ok (.getfield 140, 3) := by decide +kernel
theorem dX8_findOrder_138 : decode cX8_findOrder 138 = .ok (.putfield 223, 3) := by decide +kernel
theorem dX8_findOrder_141 : decode cX8_findOrder 141 = .ok (.iconst 0, 1) := by decide +kernel
theorem dX8_findOrder_142 : decode cX8_findOrder 142 = .ok (.istore 5, 2) := by decide +kernel
theorem dX8_findOrder_144 : decode cX8_findOrder 144 = .ok (.iload 5, 2) := by decide +kernel
theorem dX8_findOrder_146 : decode cX8_findOrder 146 = .ok (.iload_n 1, 1) := by decide +kernel
theorem dX8_findOrder_147 : decode cX8_findOrder 147 = .ok (.if_icmp .ge 23, 3) := by decide +kernel
theorem dX8_findOrder_150 : decode cX8_findOrder 150 = .ok (.aload_n 0, 1) := by decide +kernel
theorem dX8_findOrder_151 : decode cX8_findOrder 151 = .ok (.getfield 64, 3) := by decide +kernel
theorem dX8_findOrder_154 : decode cX8_findOrder 154 = .ok (.iload 5, 2) := by decide +kernel
theorem dX8_findOrder_156 : decode cX8_findOrder 156 = .ok (.aload_n 0, 1) := by decide +kernel
theorem dX8_findOrder_157 : decode cX8_findOrder 157 = .ok (.getfield 37, 3) := by decide +kernel
theorem dX8_findOrder_160 : decode cX8_findOrder 160 = .ok (.iload 5, 2) := by decide +kernel
theorem dX8_findOrder_162 : decode cX8_findOrder 162 = .ok (.iaload, 1) := by decide +kernel
theorem dX8_findOrder_163 : decode cX8_findOrder 163 = .ok (.iastore, 1) := by decide +kernel
theorem dX8_findOrder_164 : decode cX8_findOrder 164 = .ok (.iinc 5 1, 3) := by decide +kernel
theorem dX8_findOrder_167 : decode cX8_findOrder 167 = .ok (.goto (-23), 3) := by decide +kernel
theorem dX8_findOrder_170 : decode cX8_findOrder 170 = .ok (.iinc 3 1, 3) := by decide +kernel
theorem dX8_findOrder_173 : decode cX8_findOrder 173 = .ok (.goto (-130), 3) := by decide +kernel
theorem dX8_findOrder_176 : decode cX8_findOrder 176 = .ok (.return_, 1) := by decide +kernel
theorem dX8_tellsOrder_0 : decode cX8_tellsOrder 0 = .ok (.iload_n 1, 1) := by decide +kernel
theorem dX8_tellsOrder_1 : decode cX8_tellsOrder 1 = .ok (.bipush (-2), 2) := by decide +kernel
theorem dX8_tellsOrder_3 : decode cX8_tellsOrder 3 = .ok (.if_icmp .ne 10, 3) := by decide +kernel
theorem dX8_tellsOrder_6 : decode cX8_tellsOrder 6 = .ok (.aload_n 0, 1) := by decide +kernel
theorem dX8_tellsOrder_7 : decode cX8_tellsOrder 7 = .ok (.getfield 220, 3) := by decide +kernel
theorem dX8_tellsOrder_10 : decode cX8_tellsOrder 10 = .ok (.goto 35, 3) := by decide +kernel
theorem dX8_tellsOrder_13 : decode cX8_tellsOrder 13 = .ok (.iload_n 1, 1) := by decide +kernel
theorem dX8_tellsOrder_14 : decode cX8_tellsOrder 14 = .ok (.iconst (-1), 1) := by decide +kernel
theorem dX8_tellsOrder_15 : decode cX8_tellsOrder 15 = .ok (.if_icmp .ne 10, 3) := by decide +kernel
theorem dX8_tellsOrder_18 : decode cX8_tellsOrder 18 = .ok (.aload_n 0, 1) := by decide +kernel
theorem dX8_tellsOrder_19 : decode cX8_tellsOrder 19 = .ok (.getfield 223, 3) := by decide +kernel
theorem dX8_tellsOrder_22 : decode cX8_tellsOrder 22 = .ok (.goto 23, 3) := by decide +kernel
theorem dX8_tellsOrder_25 : decode cX8_tellsOrder 25 = .ok (.iload_n 1, 1) := by decide +kernel
theorem dX8_tellsOrder_26 : decode cX8_tellsOrder 26 = .ok (.aload_n 0, 1) := by decide +kernel
theorem dX8_tellsOrder_27 : decode cX8_tellsOrder 27 = .ok (.getfield 28, 3) := by decide +kernel
theorem dX8_tellsOrder_30 : decode cX8_tellsOrder 30 = .ok (.iconst 0, 1) := by decide +kernel
theorem dX8_tellsOrder_31 : decode cX8_tellsOrder 31 = .ok (.iaload, 1) := by decide +kernel
theorem dX8_tellsOrder_32 : decode cX8_tellsOrder 32 = .ok (.if_icmp .ge 12, 3) := by decide +kernel
theorem dX8_tellsOrder_35 : decode cX8_tellsOrder 35 = .ok (.aload_n 0, 1) := by decide +kernel
theorem dX8_tellsOrder_36 : decode cX8_tellsOrder 36 = .ok (.getfield 64, 3) := by decide +kernel
theorem dX8_tellsOrder_39 : decode cX8_tellsOrder 39 = .ok (.iload_n 1, 1) := by decide +kernel
theorem dX8_tellsOrder_40 : decode cX8_tellsOrder 40 = .ok (.iaload, 1) := by decide +kernel
theorem dX8_tellsOrder_41 : decode cX8_tellsOrder 41 = .ok (.goto 4, 3) := by decide +kernel
theorem dX8_tellsOrder_44 : decode cX8_tellsOrder 44 = .ok (.iconst (-1), 1) := by decide +kernel
theorem dX8_tellsOrder_45 : decode cX8_tellsOrder 45 = .ok (.ireturn, 1) := by decide +kernel
theorem dX8_order_0 : decode cX8_order 0 = .ok (.iload_n 1, 1) := by decide +kernel
theorem dX8_order_1 : decode cX8_order 1 = .ok (.i2l, 1) := by decide +kernel
theorem dX8_order_2 : decode cX8_order 2 = .ok (.ldc2_w 230, 3) := by decide +kernel
theorem dX8_order_5 : decode cX8_order 5 = .ok (.ldc2_w 232, 3) := by decide +kernel
theorem dX8_order_8 : decode cX8_order 8 = .ok (.invokestatic 72, 3) := by decide +kernel
theorem dX8_order_11 : decode cX8_order 11 = .ok (.ifCond .ne 6, 3) := by decide +kernel
theorem dX8_order_14 : decode cX8_order 14 = .ok (.bipush (-2), 2) := by decide +kernel
theorem dX8_order_16 : decode cX8_order 16 = .ok (.ireturn, 1) := by decide +kernel
theorem dX8_order_17 : decode cX8_order 17 = .ok (.aload_n 0, 1) := by decide +kernel
theorem dX8_order_18 : decode cX8_order 18 = .ok (.invokevirtual 162, 3) := by decide +kernel
theorem dX8_order_21 : decode cX8_order 21 = .ok (.aload_n 0, 1) := by decide +kernel
theorem dX8_order_22 : decode cX8_order 22 = .ok (.invokevirtual 234, 3) := by decide +kernel
theorem dX8_order_25 : decode cX8_order 25 = .ok (.aload_n 0, 1) := by decide +kernel
theorem dX8_order_26 : decode cX8_order 26 = .ok (.iload_n 1, 1) := by decide +kernel
theorem dX8_order_27 : decode cX8_order 27 = .ok (.invokevirtual 237, 3) := by decide +kernel
theorem dX8_order_30 : decode cX8_order 30 = .ok (.ireturn, 1) := by decide +kernel
theorem dX8_leadNow_0 : decode cX8_leadNow 0 = .ok (.aload_n 0, 1) := by decide +kernel
theorem dX8_leadNow_1 : decode cX8_leadNow 1 = .ok (.invokevirtual 155, 3) := by decide +kernel
theorem dX8_leadNow_4 : decode cX8_leadNow 4 = .ok (.iconst 0, 1) := by decide +kernel
theorem dX8_leadNow_5 : decode cX8_leadNow 5 = .ok (.istore_n 1, 1) := by decide +kernel
theorem dX8_leadNow_6 : decode cX8_leadNow 6 = .ok (.iload_n 1, 1) := by decide +kernel
theorem dX8_leadNow_7 : decode cX8_leadNow 7 = .ok (.bipush 100, 2) := by decide +kernel
theorem dX8_leadNow_9 : decode cX8_leadNow 9 = .ok (.if_icmp .ge 46, 3) := by decide +kernel
theorem dX8_leadNow_12 : decode cX8_leadNow 12 = .ok (.aload_n 0, 1) := by decide +kernel
theorem dX8_leadNow_13 : decode cX8_leadNow 13 = .ok (.iload_n 1, 1) := by decide +kernel
theorem dX8_leadNow_14 : decode cX8_leadNow 14 = .ok (.aload_n 0, 1) := by decide +kernel
theorem dX8_leadNow_15 : decode cX8_leadNow 15 = .ok (.getfield 34, 3) := by decide +kernel
theorem dX8_leadNow_18 : decode cX8_leadNow 18 = .ok (.iconst 4, 1) := by decide +kernel
theorem dX8_leadNow_19 : decode cX8_leadNow 19 = .ok (.iaload, 1) := by decide +kernel
theorem dX8_leadNow_20 : decode cX8_leadNow 20 = .ok (.aload_n 0, 1) := by decide +kernel
theorem dX8_leadNow_21 : decode cX8_leadNow 21 = .ok (.getfield 34, 3) := by decide +kernel
theorem dX8_leadNow_24 : decode cX8_leadNow 24 = .ok (.iconst 3, 1) := by decide +kernel
theorem dX8_leadNow_25 : decode cX8_leadNow 25 = .ok (.iaload, 1) := by decide +kernel
theorem dX8_leadNow_26 : decode cX8_leadNow 26 = .ok (.invokevirtual 158, 3) := by decide +kernel
theorem dX8_leadNow_29 : decode cX8_leadNow 29 = .ok (.aload_n 0, 1) := by decide +kernel
theorem dX8_leadNow_30 : decode cX8_leadNow 30 = .ok (.getfield 143, 3) := by decide +kernel
theorem dX8_leadNow_33 : decode cX8_leadNow 33 = .ok (.ifCond .ne 16, 3) := by decide +kernel
theorem dX8_leadNow_36 : decode cX8_leadNow 36 = .ok (.aload_n 0, 1) := by decide +kernel
theorem dX8_leadNow_37 : decode cX8_leadNow 37 = .ok (.getfield 146, 3) := by decide +kernel
theorem dX8_leadNow_40 : decode cX8_leadNow 40 = .ok (.aload_n 0, 1) := by decide +kernel
theorem dX8_leadNow_41 : decode cX8_leadNow 41 = .ok (.getfield 128, 3) := by decide +kernel
theorem dX8_leadNow_44 : decode cX8_leadNow 44 = .ok (.if_icmp .ne 5, 3) := by decide +kernel
theorem dX8_leadNow_47 : decode cX8_leadNow 47 = .ok (.iload_n 1, 1) := by decide +kernel
theorem dX8_leadNow_48 : decode cX8_leadNow 48 = .ok (.ireturn, 1) := by decide +kernel
theorem dX8_leadNow_49 : decode cX8_leadNow 49 = .ok (.iinc 1 1, 3) := by decide +kernel
theorem dX8_leadNow_52 : decode cX8_leadNow 52 = .ok (.goto (-46), 3) := by decide +kernel
theorem dX8_leadNow_55 : decode cX8_leadNow 55 = .ok (.iconst (-1), 1) := by decide +kernel
theorem dX8_leadNow_56 : decode cX8_leadNow 56 = .ok (.ireturn, 1) := by decide +kernel
theorem dX8_lead_0 : decode cX8_lead 0 = .ok (.aload_n 0, 1) := by decide +kernel
theorem dX8_lead_1 : decode cX8_lead 1 = .ok (.invokevirtual 162, 3) := by decide +kernel
theorem dX8_lead_4 : decode cX8_lead 4 = .ok (.aload_n 0, 1) := by decide +kernel
theorem dX8_lead_5 : decode cX8_lead 5 = .ok (.invokevirtual 240, 3) := by decide +kernel
theorem dX8_lead_8 : decode cX8_lead 8 = .ok (.ireturn, 1) := by decide +kernel
theorem dX8_part_0 : decode cX8_part 0 = .ok (.lload_n 0, 1) := by decide +kernel
theorem dX8_part_1 : decode cX8_part 1 = .ok (.lstore 5, 2) := by decide +kernel
theorem dX8_part_3 : decode cX8_part 3 = .ok (.lload_n 2, 1) := by decide +kernel
theorem dX8_part_4 : decode cX8_part 4 = .ok (.lstore 7, 2) := by decide +kernel
theorem dX8_part_6 : decode cX8_part 6 = .ok (.lload 7, 2) := by decide +kernel
theorem dX8_part_8 : decode cX8_part 8 = .ok (.lconst 0, 1) := by decide +kernel
theorem dX8_part_9 : decode cX8_part 9 = .ok (.lcmp, 1) := by decide +kernel
theorem dX8_part_10 : decode cX8_part 10 = .ok (.ifCond .eq 21, 3) := by decide +kernel
theorem dX8_part_13 : decode cX8_part 13 = .ok (.lload 5, 2) := by decide +kernel
theorem dX8_part_15 : decode cX8_part 15 = .ok (.lload 7, 2) := by decide +kernel
theorem dX8_part_17 : decode cX8_part 17 = .ok (.lrem, 1) := by decide +kernel
theorem dX8_part_18 : decode cX8_part 18 = .ok (.lstore 9, 2) := by decide +kernel
theorem dX8_part_20 : decode cX8_part 20 = .ok (.lload 7, 2) := by decide +kernel
theorem dX8_part_22 : decode cX8_part 22 = .ok (.lstore 5, 2) := by decide +kernel
theorem dX8_part_24 : decode cX8_part 24 = .ok (.lload 9, 2) := by decide +kernel
theorem dX8_part_26 : decode cX8_part 26 = .ok (.lstore 7, 2) := by decide +kernel
theorem dX8_part_28 : decode cX8_part 28 = .ok (.goto (-22), 3) := by decide +kernel
theorem dX8_part_31 : decode cX8_part 31 = .ok (.iload 4, 2) := by decide +kernel
theorem dX8_part_33 : decode cX8_part 33 = .ok (.ifCond .ne 7, 3) := by decide +kernel
theorem dX8_part_36 : decode cX8_part 36 = .ok (.lload_n 0, 1) := by decide +kernel
theorem dX8_part_37 : decode cX8_part 37 = .ok (.goto 4, 3) := by decide +kernel
theorem dX8_part_40 : decode cX8_part 40 = .ok (.lload_n 2, 1) := by decide +kernel
theorem dX8_part_41 : decode cX8_part 41 = .ok (.lload 5, 2) := by decide +kernel
theorem dX8_part_43 : decode cX8_part 43 = .ok (.ldiv, 1) := by decide +kernel
theorem dX8_part_44 : decode cX8_part 44 = .ok (.lreturn, 1) := by decide +kernel
theorem dX8_oddsOf_0 : decode cX8_oddsOf 0 = .ok (.lconst 1, 1) := by decide +kernel
theorem dX8_oddsOf_1 : decode cX8_oddsOf 1 = .ok (.lstore_n 2, 1) := by decide +kernel
theorem dX8_oddsOf_2 : decode cX8_oddsOf 2 = .ok (.lconst 1, 1) := by decide +kernel
theorem dX8_oddsOf_3 : decode cX8_oddsOf 3 = .ok (.lstore 4, 2) := by decide +kernel
theorem dX8_oddsOf_5 : decode cX8_oddsOf 5 = .ok (.lconst 0, 1) := by decide +kernel
theorem dX8_oddsOf_6 : decode cX8_oddsOf 6 = .ok (.lstore 6, 2) := by decide +kernel
theorem dX8_oddsOf_8 : decode cX8_oddsOf 8 = .ok (.iconst 0, 1) := by decide +kernel
theorem dX8_oddsOf_9 : decode cX8_oddsOf 9 = .ok (.istore 8, 2) := by decide +kernel
theorem dX8_oddsOf_11 : decode cX8_oddsOf 11 = .ok (.iload 8, 2) := by decide +kernel
theorem dX8_oddsOf_13 : decode cX8_oddsOf 13 = .ok (.aload_n 0, 1) := by decide +kernel
theorem dX8_oddsOf_14 : decode cX8_oddsOf 14 = .ok (.getfield 128, 3) := by decide +kernel
theorem dX8_oddsOf_17 : decode cX8_oddsOf 17 = .ok (.if_icmp .ge 47, 3) := by decide +kernel
theorem dX8_oddsOf_20 : decode cX8_oddsOf 20 = .ok (.lload_n 2, 1) := by decide +kernel
theorem dX8_oddsOf_21 : decode cX8_oddsOf 21 = .ok (.bipush 16, 2) := by decide +kernel
theorem dX8_oddsOf_23 : decode cX8_oddsOf 23 = .ok (.aload_n 0, 1) := by decide +kernel
theorem dX8_oddsOf_24 : decode cX8_oddsOf 24 = .ok (.getfield 43, 3) := by decide +kernel
theorem dX8_oddsOf_27 : decode cX8_oddsOf 27 = .ok (.iload 8, 2) := by decide +kernel
theorem dX8_oddsOf_29 : decode cX8_oddsOf 29 = .ok (.iaload, 1) := by decide +kernel
theorem dX8_oddsOf_30 : decode cX8_oddsOf 30 = .ok (.iconst 5, 1) := by decide +kernel
theorem dX8_oddsOf_31 : decode cX8_oddsOf 31 = .ok (.isub, 1) := by decide +kernel
theorem dX8_oddsOf_32 : decode cX8_oddsOf 32 = .ok (.iconst 0, 1) := by decide +kernel
theorem dX8_oddsOf_33 : decode cX8_oddsOf 33 = .ok (.invokestatic 134, 3) := by decide +kernel
theorem dX8_oddsOf_36 : decode cX8_oddsOf 36 = .ok (.isub, 1) := by decide +kernel
theorem dX8_oddsOf_37 : decode cX8_oddsOf 37 = .ok (.i2l, 1) := by decide +kernel
theorem dX8_oddsOf_38 : decode cX8_oddsOf 38 = .ok (.lmul, 1) := by decide +kernel
theorem dX8_oddsOf_39 : decode cX8_oddsOf 39 = .ok (.lstore_n 2, 1) := by decide +kernel
theorem dX8_oddsOf_40 : decode cX8_oddsOf 40 = .ok (.lload 4, 2) := by decide +kernel
theorem dX8_oddsOf_42 : decode cX8_oddsOf 42 = .ok (.ldc2_w 243, 3) := by decide +kernel
theorem dX8_oddsOf_45 : decode cX8_oddsOf 45 = .ok (.lmul, 1) := by decide +kernel
theorem dX8_oddsOf_46 : decode cX8_oddsOf 46 = .ok (.lstore 4, 2) := by decide +kernel
theorem dX8_oddsOf_48 : decode cX8_oddsOf 48 = .ok (.ldc2_w 243, 3) := by decide +kernel
theorem dX8_oddsOf_51 : decode cX8_oddsOf 51 = .ok (.lload 6, 2) := by decide +kernel
theorem dX8_oddsOf_53 : decode cX8_oddsOf 53 = .ok (.lmul, 1) := by decide +kernel
theorem dX8_oddsOf_54 : decode cX8_oddsOf 54 = .ok (.lload_n 2, 1) := by decide +kernel
theorem dX8_oddsOf_55 : decode cX8_oddsOf 55 = .ok (.ladd, 1) := by decide +kernel
theorem dX8_oddsOf_56 : decode cX8_oddsOf 56 = .ok (.lstore 6, 2) := by decide +kernel
theorem dX8_oddsOf_58 : decode cX8_oddsOf 58 = .ok (.iinc 8 1, 3) := by decide +kernel
theorem dX8_oddsOf_61 : decode cX8_oddsOf 61 = .ok (.goto (-50), 3) := by decide +kernel
theorem dX8_oddsOf_64 : decode cX8_oddsOf 64 = .ok (.iload_n 1, 1) := by decide +kernel
theorem dX8_oddsOf_65 : decode cX8_oddsOf 65 = .ok (.iconst 2, 1) := by decide +kernel
theorem dX8_oddsOf_66 : decode cX8_oddsOf 66 = .ok (.if_icmp .ge 13, 3) := by decide +kernel
theorem dX8_oddsOf_69 : decode cX8_oddsOf 69 = .ok (.lload_n 2, 1) := by decide +kernel
theorem dX8_oddsOf_70 : decode cX8_oddsOf 70 = .ok (.lload 4, 2) := by decide +kernel
theorem dX8_oddsOf_72 : decode cX8_oddsOf 72 = .ok (.iload_n 1, 1) := by decide +kernel
theorem dX8_oddsOf_73 : decode cX8_oddsOf 73 = .ok (.invokestatic 245, 3) := by decide +kernel
theorem dX8_oddsOf_76 : decode cX8_oddsOf 76 = .ok (.goto 13, 3) := by decide +kernel
theorem dX8_oddsOf_79 : decode cX8_oddsOf 79 = .ok (.lload 6, 2) := by decide +kernel
theorem dX8_oddsOf_81 : decode cX8_oddsOf 81 = .ok (.lload 4, 2) := by decide +kernel
theorem dX8_oddsOf_83 : decode cX8_oddsOf 83 = .ok (.iload_n 1, 1) := by decide +kernel
theorem dX8_oddsOf_84 : decode cX8_oddsOf 84 = .ok (.iconst 2, 1) := by decide +kernel
theorem dX8_oddsOf_85 : decode cX8_oddsOf 85 = .ok (.isub, 1) := by decide +kernel
theorem dX8_oddsOf_86 : decode cX8_oddsOf 86 = .ok (.invokestatic 245, 3) := by decide +kernel
theorem dX8_oddsOf_89 : decode cX8_oddsOf 89 = .ok (.lreturn, 1) := by decide +kernel
theorem dX8_odds_0 : decode cX8_odds 0 = .ok (.aload_n 0, 1) := by decide +kernel
theorem dX8_odds_1 : decode cX8_odds 1 = .ok (.invokevirtual 162, 3) := by decide +kernel
theorem dX8_odds_4 : decode cX8_odds 4 = .ok (.iload_n 1, 1) := by decide +kernel
theorem dX8_odds_5 : decode cX8_odds 5 = .ok (.i2l, 1) := by decide +kernel
theorem dX8_odds_6 : decode cX8_odds 6 = .ok (.lconst 0, 1) := by decide +kernel
theorem dX8_odds_7 : decode cX8_odds 7 = .ok (.ldc2_w 80, 3) := by decide +kernel
theorem dX8_odds_10 : decode cX8_odds 10 = .ok (.invokestatic 72, 3) := by decide +kernel
theorem dX8_odds_13 : decode cX8_odds 13 = .ok (.ifCond .eq 11, 3) := by decide +kernel
theorem dX8_odds_16 : decode cX8_odds 16 = .ok (.aload_n 0, 1) := by decide +kernel
theorem dX8_odds_17 : decode cX8_odds 17 = .ok (.iload_n 1, 1) := by decide +kernel
theorem dX8_odds_18 : decode cX8_odds 18 = .ok (.invokevirtual 249, 3) := by decide +kernel
theorem dX8_odds_21 : decode cX8_odds 21 = .ok (.goto 8, 3) := by decide +kernel
theorem dX8_odds_24 : decode cX8_odds 24 = .ok (.bipush (-2), 2) := by decide +kernel
theorem dX8_odds_26 : decode cX8_odds 26 = .ok (.invokestatic 253, 3) := by decide +kernel
theorem dX8_odds_29 : decode cX8_odds 29 = .ok (.lreturn, 1) := by decide +kernel
theorem dX8_drawnOf_0 : decode cX8_drawnOf 0 = .ok (.iload_n 1, 1) := by decide +kernel
theorem dX8_drawnOf_1 : decode cX8_drawnOf 1 = .ok (.istore_n 2, 1) := by decide +kernel
theorem dX8_drawnOf_2 : decode cX8_drawnOf 2 = .ok (.iconst 0, 1) := by decide +kernel
theorem dX8_drawnOf_3 : decode cX8_drawnOf 3 = .ok (.istore_n 3, 1) := by decide +kernel
theorem dX8_drawnOf_4 : decode cX8_drawnOf 4 = .ok (.iload_n 3, 1) := by decide +kernel
theorem dX8_drawnOf_5 : decode cX8_drawnOf 5 = .ok (.aload_n 0, 1) := by decide +kernel
theorem dX8_drawnOf_6 : decode cX8_drawnOf 6 = .ok (.getfield 128, 3) := by decide +kernel
theorem dX8_drawnOf_9 : decode cX8_drawnOf 9 = .ok (.if_icmp .ge 49, 3) := by decide +kernel
theorem dX8_drawnOf_12 : decode cX8_drawnOf 12 = .ok (.aload_n 0, 1) := by decide +kernel
theorem dX8_drawnOf_13 : decode cX8_drawnOf 13 = .ok (.getfield 43, 3) := by decide +kernel
theorem dX8_drawnOf_16 : decode cX8_drawnOf 16 = .ok (.iload_n 3, 1) := by decide +kernel
theorem dX8_drawnOf_17 : decode cX8_drawnOf 17 = .ok (.iaload, 1) := by decide +kernel
theorem dX8_drawnOf_18 : decode cX8_drawnOf 18 = .ok (.iconst 5, 1) := by decide +kernel
theorem dX8_drawnOf_19 : decode cX8_drawnOf 19 = .ok (.if_icmp .le 33, 3) := by decide +kernel
theorem dX8_drawnOf_22 : decode cX8_drawnOf 22 = .ok (.ldc_w 256, 3) := by decide +kernel
theorem dX8_drawnOf_25 : decode cX8_drawnOf 25 = .ok (.iload_n 2, 1) := by decide +kernel
theorem dX8_drawnOf_26 : decode cX8_drawnOf 26 = .ok (.imul, 1) := by decide +kernel
theorem dX8_drawnOf_27 : decode cX8_drawnOf 27 = .ok (.sipush 12345, 3) := by decide +kernel
theorem dX8_drawnOf_30 : decode cX8_drawnOf 30 = .ok (.iadd, 1) := by decide +kernel
theorem dX8_drawnOf_31 : decode cX8_drawnOf 31 = .ok (.istore_n 2, 1) := by decide +kernel
theorem dX8_drawnOf_32 : decode cX8_drawnOf 32 = .ok (.iload_n 2, 1) := by decide +kernel
theorem dX8_drawnOf_33 : decode cX8_drawnOf 33 = .ok (.bipush 16, 2) := by decide +kernel
theorem dX8_drawnOf_35 : decode cX8_drawnOf 35 = .ok (.iushr, 1) := by decide +kernel
theorem dX8_drawnOf_36 : decode cX8_drawnOf 36 = .ok (.bipush 16, 2) := by decide +kernel
theorem dX8_drawnOf_38 : decode cX8_drawnOf 38 = .ok (.irem, 1) := by decide +kernel
theorem dX8_drawnOf_39 : decode cX8_drawnOf 39 = .ok (.aload_n 0, 1) := by decide +kernel
theorem dX8_drawnOf_40 : decode cX8_drawnOf 40 = .ok (.getfield 43, 3) := by decide +kernel
theorem dX8_drawnOf_43 : decode cX8_drawnOf 43 = .ok (.iload_n 3, 1) := by decide +kernel
theorem dX8_drawnOf_44 : decode cX8_drawnOf 44 = .ok (.iaload, 1) := by decide +kernel
theorem dX8_drawnOf_45 : decode cX8_drawnOf 45 = .ok (.iconst 5, 1) := by decide +kernel
theorem dX8_drawnOf_46 : decode cX8_drawnOf 46 = .ok (.isub, 1) := by decide +kernel
theorem dX8_drawnOf_47 : decode cX8_drawnOf 47 = .ok (.if_icmp .ge 5, 3) := by decide +kernel
theorem dX8_drawnOf_50 : decode cX8_drawnOf 50 = .ok (.iload_n 3, 1) := by decide +kernel
theorem dX8_drawnOf_51 : decode cX8_drawnOf 51 = .ok (.ireturn, 1) := by decide +kernel
theorem dX8_drawnOf_52 : decode cX8_drawnOf 52 = .ok (.iinc 3 1, 3) := by decide +kernel
theorem dX8_drawnOf_55 : decode cX8_drawnOf 55 = .ok (.goto (-51), 3) := by decide +kernel
theorem dX8_drawnOf_58 : decode cX8_drawnOf 58 = .ok (.aload_n 0, 1) := by decide +kernel
theorem dX8_drawnOf_59 : decode cX8_drawnOf 59 = .ok (.getfield 128, 3) := by decide +kernel
theorem dX8_drawnOf_62 : decode cX8_drawnOf 62 = .ok (.ireturn, 1) := by decide +kernel
theorem dX8_drawn_0 : decode cX8_drawn 0 = .ok (.aload_n 0, 1) := by decide +kernel
theorem dX8_drawn_1 : decode cX8_drawn 1 = .ok (.invokevirtual 162, 3) := by decide +kernel
theorem dX8_drawn_4 : decode cX8_drawn 4 = .ok (.aload_n 0, 1) := by decide +kernel
theorem dX8_drawn_5 : decode cX8_drawn 5 = .ok (.iload_n 1, 1) := by decide +kernel
theorem dX8_drawn_6 : decode cX8_drawn 6 = .ok (.invokevirtual 257, 3) := by decide +kernel
theorem dX8_drawn_9 : decode cX8_drawn 9 = .ok (.ireturn, 1) := by decide +kernel
theorem dX8_errors_0 : decode cX8_errors 0 = .ok (.iconst 0, 1) := by decide +kernel
theorem dX8_errors_1 : decode cX8_errors 1 = .ok (.istore_n 3, 1) := by decide +kernel
theorem dX8_errors_2 : decode cX8_errors 2 = .ok (.iconst 0, 1) := by decide +kernel
theorem dX8_errors_3 : decode cX8_errors 3 = .ok (.istore 4, 2) := by decide +kernel
theorem dX8_errors_5 : decode cX8_errors 5 = .ok (.iload 4, 2) := by decide +kernel
theorem dX8_errors_7 : decode cX8_errors 7 = .ok (.aload_n 0, 1) := by decide +kernel
theorem dX8_errors_8 : decode cX8_errors 8 = .ok (.getfield 28, 3) := by decide +kernel
theorem dX8_errors_11 : decode cX8_errors 11 = .ok (.iconst 0, 1) := by decide +kernel
theorem dX8_errors_12 : decode cX8_errors 12 = .ok (.iaload, 1) := by decide +kernel
theorem dX8_errors_13 : decode cX8_errors 13 = .ok (.if_icmp .ge 81, 3) := by decide +kernel
theorem dX8_errors_16 : decode cX8_errors 16 = .ok (.aload_n 0, 1) := by decide +kernel
theorem dX8_errors_17 : decode cX8_errors 17 = .ok (.getfield 31, 3) := by decide +kernel
theorem dX8_errors_20 : decode cX8_errors 20 = .ok (.iconst 4, 1) := by decide +kernel
theorem dX8_errors_21 : decode cX8_errors 21 = .ok (.iload 4, 2) := by decide +kernel
theorem dX8_errors_23 : decode cX8_errors 23 = .ok (.imul, 1) := by decide +kernel
theorem dX8_errors_24 : decode cX8_errors 24 = .ok (.iconst 2, 1) := by decide +kernel
theorem dX8_errors_25 : decode cX8_errors 25 = .ok (.iadd, 1) := by decide +kernel
theorem dX8_errors_26 : decode cX8_errors 26 = .ok (.iaload, 1) := by decide +kernel
theorem dX8_errors_27 : decode cX8_errors 27 = .ok (.iload_n 1, 1) := by decide +kernel
theorem dX8_errors_28 : decode cX8_errors 28 = .ok (.if_icmp .lt 7, 3) := by decide +kernel
theorem dX8_errors_31 : decode cX8_errors 31 = .ok (.iconst 1, 1) := by decide +kernel
theorem dX8_errors_32 : decode cX8_errors 32 = .ok (.goto 4, 3) := by decide +kernel
theorem dX8_errors_35 : decode cX8_errors 35 = .ok (.iconst 0, 1) := by decide +kernel
theorem dX8_errors_36 : decode cX8_errors 36 = .ok (.istore 5, 2) := by decide +kernel
theorem dX8_errors_38 : decode cX8_errors 38 = .ok (.aload_n 0, 1) := by decide +kernel
theorem dX8_errors_39 : decode cX8_errors 39 = .ok (.getfield 34, 3) := by decide +kernel
theorem dX8_errors_42 : decode cX8_errors 42 = .ok (.iconst 5, 1) := by decide +kernel
theorem dX8_errors_43 : decode cX8_errors 43 = .ok (.iaload, 1) := by decide +kernel
theorem dX8_errors_44 : decode cX8_errors 44 = .ok (.iload 4, 2) := by decide +kernel
theorem dX8_errors_46 : decode cX8_errors 46 = .ok (.invokestatic 260, 3) := by decide +kernel
theorem dX8_errors_49 : decode cX8_errors 49 = .ok (.istore 6, 2) := by decide +kernel
theorem dX8_errors_51 : decode cX8_errors 51 = .ok (.iload_n 3, 1) := by decide +kernel
theorem dX8_errors_52 : decode cX8_errors 52 = .ok (.iload_n 2, 1) := by decide +kernel
theorem dX8_errors_53 : decode cX8_errors 53 = .ok (.ifCond .ne 13, 3) := by decide +kernel
theorem dX8_errors_56 : decode cX8_errors 56 = .ok (.iload 5, 2) := by decide +kernel
theorem dX8_errors_58 : decode cX8_errors 58 = .ok (.ifCond .eq 8, 3) := by decide +kernel
theorem dX8_errors_61 : decode cX8_errors 61 = .ok (.iload 6, 2) := by decide +kernel
theorem dX8_errors_63 : decode cX8_errors 63 = .ok (.ifCond .eq 18, 3) := by decide +kernel
theorem dX8_errors_66 : decode cX8_errors 66 = .ok (.iload_n 2, 1) := by decide +kernel
theorem dX8_errors_67 : decode cX8_errors 67 = .ok (.iconst 1, 1) := by decide +kernel
theorem dX8_errors_68 : decode cX8_errors 68 = .ok (.if_icmp .ne 17, 3) := by decide +kernel
theorem dX8_errors_71 : decode cX8_errors 71 = .ok (.iload 5, 2) := by decide +kernel
theorem dX8_errors_73 : decode cX8_errors 73 = .ok (.ifCond .ne 12, 3) := by decide +kernel
theorem dX8_errors_76 : decode cX8_errors 76 = .ok (.iload 6, 2) := by decide +kernel
theorem dX8_errors_78 : decode cX8_errors 78 = .ok (.ifCond .eq 7, 3) := by decide +kernel
theorem dX8_errors_81 : decode cX8_errors 81 = .ok (.iconst 1, 1) := by decide +kernel
theorem dX8_errors_82 : decode cX8_errors 82 = .ok (.goto 4, 3) := by decide +kernel
theorem dX8_errors_85 : decode cX8_errors 85 = .ok (.iconst 0, 1) := by decide +kernel
theorem dX8_errors_86 : decode cX8_errors 86 = .ok (.iadd, 1) := by decide +kernel
theorem dX8_errors_87 : decode cX8_errors 87 = .ok (.istore_n 3, 1) := by decide +kernel
theorem dX8_errors_88 : decode cX8_errors 88 = .ok (.iinc 4 1, 3) := by decide +kernel
theorem dX8_errors_91 : decode cX8_errors 91 = .ok (.goto (-86), 3) := by decide +kernel
theorem dX8_errors_94 : decode cX8_errors 94 = .ok (.iload_n 3, 1) := by decide +kernel
theorem dX8_errors_95 : decode cX8_errors 95 = .ok (.ireturn, 1) := by decide +kernel
theorem dX8_lineOf_0 : decode cX8_lineOf 0 = .ok (.iload_n 1, 1) := by decide +kernel
theorem dX8_lineOf_1 : decode cX8_lineOf 1 = .ok (.iconst (-1), 1) := by decide +kernel
theorem dX8_lineOf_2 : decode cX8_lineOf 2 = .ok (.if_icmp .eq 10, 3) := by decide +kernel
theorem dX8_lineOf_5 : decode cX8_lineOf 5 = .ok (.aload_n 0, 1) := by decide +kernel
theorem dX8_lineOf_6 : decode cX8_lineOf 6 = .ok (.iload_n 1, 1) := by decide +kernel
theorem dX8_lineOf_7 : decode cX8_lineOf 7 = .ok (.iload_n 2, 1) := by decide +kernel
theorem dX8_lineOf_8 : decode cX8_lineOf 8 = .ok (.invokevirtual 264, 3) := by decide +kernel
theorem dX8_lineOf_11 : decode cX8_lineOf 11 = .ok (.ireturn, 1) := by decide +kernel
theorem dX8_lineOf_12 : decode cX8_lineOf 12 = .ok (.iconst 0, 1) := by decide +kernel
theorem dX8_lineOf_13 : decode cX8_lineOf 13 = .ok (.istore_n 3, 1) := by decide +kernel
theorem dX8_lineOf_14 : decode cX8_lineOf 14 = .ok (.iconst 1, 1) := by decide +kernel
theorem dX8_lineOf_15 : decode cX8_lineOf 15 = .ok (.istore 4, 2) := by decide +kernel
theorem dX8_lineOf_17 : decode cX8_lineOf 17 = .ok (.iload 4, 2) := by decide +kernel
theorem dX8_lineOf_19 : decode cX8_lineOf 19 = .ok (.bipush 11, 2) := by decide +kernel
theorem dX8_lineOf_21 : decode cX8_lineOf 21 = .ok (.if_icmp .ge 47, 3) := by decide +kernel
theorem dX8_lineOf_24 : decode cX8_lineOf 24 = .ok (.aload_n 0, 1) := by decide +kernel
theorem dX8_lineOf_25 : decode cX8_lineOf 25 = .ok (.iload 4, 2) := by decide +kernel
theorem dX8_lineOf_27 : decode cX8_lineOf 27 = .ok (.iconst 0, 1) := by decide +kernel
theorem dX8_lineOf_28 : decode cX8_lineOf 28 = .ok (.invokevirtual 264, 3) := by decide +kernel
theorem dX8_lineOf_31 : decode cX8_lineOf 31 = .ok (.aload_n 0, 1) := by decide +kernel
theorem dX8_lineOf_32 : decode cX8_lineOf 32 = .ok (.iload 4, 2) := by decide +kernel
theorem dX8_lineOf_34 : decode cX8_lineOf 34 = .ok (.iconst 1, 1) := by decide +kernel
theorem dX8_lineOf_35 : decode cX8_lineOf 35 = .ok (.invokevirtual 264, 3) := by decide +kernel
theorem dX8_lineOf_38 : decode cX8_lineOf 38 = .ok (.iadd, 1) := by decide +kernel
theorem dX8_lineOf_39 : decode cX8_lineOf 39 = .ok (.aload_n 0, 1) := by decide +kernel
theorem dX8_lineOf_40 : decode cX8_lineOf 40 = .ok (.iload_n 3, 1) := by decide +kernel
theorem dX8_lineOf_41 : decode cX8_lineOf 41 = .ok (.iconst 0, 1) := by decide +kernel
theorem dX8_lineOf_42 : decode cX8_lineOf 42 = .ok (.invokevirtual 264, 3) := by decide +kernel
theorem dX8_lineOf_45 : decode cX8_lineOf 45 = .ok (.aload_n 0, 1) := by decide +kernel
theorem dX8_lineOf_46 : decode cX8_lineOf 46 = .ok (.iload_n 3, 1) := by decide +kernel
theorem dX8_lineOf_47 : decode cX8_lineOf 47 = .ok (.iconst 1, 1) := by decide +kernel
theorem dX8_lineOf_48 : decode cX8_lineOf 48 = .ok (.invokevirtual 264, 3) := by decide +kernel
theorem dX8_lineOf_51 : decode cX8_lineOf 51 = .ok (.iadd, 1) := by decide +kernel
theorem dX8_lineOf_52 : decode cX8_lineOf 52 = .ok (.if_icmp .ge 8, 3) := by decide +kernel
theorem dX8_lineOf_55 : decode cX8_lineOf 55 = .ok (.iload 4, 2) := by decide +kernel
theorem dX8_lineOf_57 : decode cX8_lineOf 57 = .ok (.goto 4, 3) := by decide +kernel
theorem dX8_lineOf_60 : decode cX8_lineOf 60 = .ok (.iload_n 3, 1) := by decide +kernel
theorem dX8_lineOf_61 : decode cX8_lineOf 61 = .ok (.istore_n 3, 1) := by decide +kernel
theorem dX8_lineOf_62 : decode cX8_lineOf 62 = .ok (.iinc 4 1, 3) := by decide +kernel
theorem dX8_lineOf_65 : decode cX8_lineOf 65 = .ok (.goto (-48), 3) := by decide +kernel
theorem dX8_lineOf_68 : decode cX8_lineOf 68 = .ok (.iload_n 2, 1) := by decide +kernel
theorem dX8_lineOf_69 : decode cX8_lineOf 69 = .ok (.ifCond .ne 7, 3) := by decide +kernel
theorem dX8_lineOf_72 : decode cX8_lineOf 72 = .ok (.iload_n 3, 1) := by decide +kernel
theorem dX8_lineOf_73 : decode cX8_lineOf 73 = .ok (.goto 16, 3) := by decide +kernel
theorem dX8_lineOf_76 : decode cX8_lineOf 76 = .ok (.aload_n 0, 1) := by decide +kernel
theorem dX8_lineOf_77 : decode cX8_lineOf 77 = .ok (.iload_n 3, 1) := by decide +kernel
theorem dX8_lineOf_78 : decode cX8_lineOf 78 = .ok (.iconst 0, 1) := by decide +kernel
theorem dX8_lineOf_79 : decode cX8_lineOf 79 = .ok (.invokevirtual 264, 3) := by decide +kernel
theorem dX8_lineOf_82 : decode cX8_lineOf 82 = .ok (.aload_n 0, 1) := by decide +kernel
theorem dX8_lineOf_83 : decode cX8_lineOf 83 = .ok (.iload_n 3, 1) := by decide +kernel
theorem dX8_lineOf_84 : decode cX8_lineOf 84 = .ok (.iconst 1, 1) := by decide +kernel
theorem dX8_lineOf_85 : decode cX8_lineOf 85 = .ok (.invokevirtual 264, 3) := by decide +kernel
theorem dX8_lineOf_88 : decode cX8_lineOf 88 = .ok (.iadd, 1) := by decide +kernel
theorem dX8_lineOf_89 : decode cX8_lineOf 89 = .ok (.ireturn, 1) := by decide +kernel
theorem dX8_line_0 : decode cX8_line 0 = .ok (.aload_n 0, 1) := by decide +kernel
theorem dX8_line_1 : decode cX8_line 1 = .ok (.iconst 0, 1) := by decide +kernel
theorem dX8_line_2 : decode cX8_line 2 = .ok (.invokevirtual 120, 3) := by decide +kernel
theorem dX8_line_5 : decode cX8_line 5 = .ok (.pop, 1) := by decide +kernel
theorem dX8_line_6 : decode cX8_line 6 = .ok (.iload_n 1, 1) := by decide +kernel
theorem dX8_line_7 : decode cX8_line 7 = .ok (.i2l, 1) := by decide +kernel
theorem dX8_line_8 : decode cX8_line 8 = .ok (.ldc2_w 267, 3) := by decide +kernel
theorem dX8_line_11 : decode cX8_line 11 = .ok (.ldc2_w 269, 3) := by decide +kernel
theorem dX8_line_14 : decode cX8_line 14 = .ok (.invokestatic 72, 3) := by decide +kernel
theorem dX8_line_17 : decode cX8_line 17 = .ok (.ifCond .eq 19, 3) := by decide +kernel
theorem dX8_line_20 : decode cX8_line 20 = .ok (.iload_n 2, 1) := by decide +kernel
theorem dX8_line_21 : decode cX8_line 21 = .ok (.invokestatic 101, 3) := by decide +kernel
theorem dX8_line_24 : decode cX8_line 24 = .ok (.ifCond .eq 12, 3) := by decide +kernel
theorem dX8_line_27 : decode cX8_line 27 = .ok (.aload_n 0, 1) := by decide +kernel
theorem dX8_line_28 : decode cX8_line 28 = .ok (.iload_n 1, 1) := by decide +kernel
theorem dX8_line_29 : decode cX8_line 29 = .ok (.iload_n 2, 1) := by decide +kernel
theorem dX8_line_30 : decode cX8_line 30 = .ok (.invokevirtual 271, 3) := by decide +kernel
theorem dX8_line_33 : decode cX8_line 33 = .ok (.goto 5, 3) := by decide +kernel
theorem dX8_line_36 : decode cX8_line 36 = .ok (.bipush (-2), 2) := by decide +kernel
theorem dX8_line_38 : decode cX8_line 38 = .ok (.ireturn, 1) := by decide +kernel
theorem dX8_seen_0 : decode cX8_seen 0 = .ok (.iload_n 1, 1) := by decide +kernel
theorem dX8_seen_1 : decode cX8_seen 1 = .ok (.i2l, 1) := by decide +kernel
theorem dX8_seen_2 : decode cX8_seen 2 = .ok (.lconst 0, 1) := by decide +kernel
theorem dX8_seen_3 : decode cX8_seen 3 = .ok (.ldc2_w 201, 3) := by decide +kernel
theorem dX8_seen_6 : decode cX8_seen 6 = .ok (.invokestatic 72, 3) := by decide +kernel
theorem dX8_seen_9 : decode cX8_seen 9 = .ok (.ifCond .eq 17, 3) := by decide +kernel
theorem dX8_seen_12 : decode cX8_seen 12 = .ok (.iload_n 2, 1) := by decide +kernel
theorem dX8_seen_13 : decode cX8_seen 13 = .ok (.i2l, 1) := by decide +kernel
theorem dX8_seen_14 : decode cX8_seen 14 = .ok (.ldc2_w 267, 3) := by decide +kernel
theorem dX8_seen_17 : decode cX8_seen 17 = .ok (.ldc2_w 274, 3) := by decide +kernel
theorem dX8_seen_20 : decode cX8_seen 20 = .ok (.invokestatic 72, 3) := by decide +kernel
theorem dX8_seen_23 : decode cX8_seen 23 = .ok (.ifCond .ne 6, 3) := by decide +kernel
theorem dX8_seen_26 : decode cX8_seen 26 = .ok (.bipush (-2), 2) := by decide +kernel
theorem dX8_seen_28 : decode cX8_seen 28 = .ok (.ireturn, 1) := by decide +kernel
theorem dX8_seen_29 : decode cX8_seen 29 = .ok (.aload_n 0, 1) := by decide +kernel
theorem dX8_seen_30 : decode cX8_seen 30 = .ok (.getfield 276, 3) := by decide +kernel
theorem dX8_seen_33 : decode cX8_seen 33 = .ok (.bipush 8, 2) := by decide +kernel
theorem dX8_seen_35 : decode cX8_seen 35 = .ok (.if_icmp .ne 6, 3) := by decide +kernel
theorem dX8_seen_38 : decode cX8_seen 38 = .ok (.bipush (-4), 2) := by decide +kernel
theorem dX8_seen_40 : decode cX8_seen 40 = .ok (.ireturn, 1) := by decide +kernel
theorem dX8_seen_41 : decode cX8_seen 41 = .ok (.aload_n 0, 1) := by decide +kernel
theorem dX8_seen_42 : decode cX8_seen 42 = .ok (.getfield 67, 3) := by decide +kernel
theorem dX8_seen_45 : decode cX8_seen 45 = .ok (.iconst 2, 1) := by decide +kernel
theorem dX8_seen_46 : decode cX8_seen 46 = .ok (.aload_n 0, 1) := by decide +kernel
theorem dX8_seen_47 : decode cX8_seen 47 = .ok (.getfield 276, 3) := by decide +kernel
theorem dX8_seen_50 : decode cX8_seen 50 = .ok (.imul, 1) := by decide +kernel
theorem dX8_seen_51 : decode cX8_seen 51 = .ok (.iload_n 1, 1) := by decide +kernel
theorem dX8_seen_52 : decode cX8_seen 52 = .ok (.iastore, 1) := by decide +kernel
theorem dX8_seen_53 : decode cX8_seen 53 = .ok (.aload_n 0, 1) := by decide +kernel
theorem dX8_seen_54 : decode cX8_seen 54 = .ok (.getfield 67, 3) := by decide +kernel
theorem dX8_seen_57 : decode cX8_seen 57 = .ok (.iconst 2, 1) := by decide +kernel
theorem dX8_seen_58 : decode cX8_seen 58 = .ok (.aload_n 0, 1) := by decide +kernel
theorem dX8_seen_59 : decode cX8_seen 59 = .ok (.getfield 276, 3) := by decide +kernel
theorem dX8_seen_62 : decode cX8_seen 62 = .ok (.imul, 1) := by decide +kernel
theorem dX8_seen_63 : decode cX8_seen 63 = .ok (.iconst 1, 1) := by decide +kernel
theorem dX8_seen_64 : decode cX8_seen 64 = .ok (.iadd, 1) := by decide +kernel
theorem dX8_seen_65 : decode cX8_seen 65 = .ok (.iload_n 2, 1) := by decide +kernel
theorem dX8_seen_66 : decode cX8_seen 66 = .ok (.iastore, 1) := by decide +kernel
theorem dX8_seen_67 : decode cX8_seen 67 = .ok (.aload_n 0, 1) := by decide +kernel
theorem dX8_seen_68 : decode cX8_seen 68 = .ok (.dup, 1) := by decide +kernel
theorem dX8_seen_69 : decode cX8_seen 69 = .ok (.getfield 276, 3) := by decide +kernel
theorem dX8_seen_72 : decode cX8_seen 72 = .ok (.iconst 1, 1) := by decide +kernel
theorem dX8_seen_73 : decode cX8_seen 73 = .ok (.iadd, 1) := by decide +kernel
theorem dX8_seen_74 : decode cX8_seen 74 = .ok (.putfield 276, 3) := by decide +kernel
theorem dX8_seen_77 : decode cX8_seen 77 = .ok (.aload_n 0, 1) := by decide +kernel
theorem dX8_seen_78 : decode cX8_seen 78 = .ok (.getfield 276, 3) := by decide +kernel
theorem dX8_seen_81 : decode cX8_seen 81 = .ok (.ireturn, 1) := by decide +kernel
theorem dX8_forget_0 : decode cX8_forget 0 = .ok (.aload_n 0, 1) := by decide +kernel
theorem dX8_forget_1 : decode cX8_forget 1 = .ok (.getfield 276, 3) := by decide +kernel
theorem dX8_forget_4 : decode cX8_forget 4 = .ok (.istore_n 1, 1) := by decide +kernel
theorem dX8_forget_5 : decode cX8_forget 5 = .ok (.aload_n 0, 1) := by decide +kernel
theorem dX8_forget_6 : decode cX8_forget 6 = .ok (.iconst 0, 1) := by decide +kernel
theorem dX8_forget_7 : decode cX8_forget 7 = .ok (.putfield 276, 3) := by decide +kernel
theorem dX8_forget_10 : decode cX8_forget 10 = .ok (.iload_n 1, 1) := by decide +kernel
theorem dX8_forget_11 : decode cX8_forget 11 = .ok (.ireturn, 1) := by decide +kernel
theorem dX8_read_0 : decode cX8_read 0 = .ok (.iload_n 1, 1) := by decide +kernel
theorem dX8_read_1 : decode cX8_read 1 = .ok (.invokestatic 82, 3) := by decide +kernel
theorem dX8_read_4 : decode cX8_read 4 = .ok (.ifCond .ne 6, 3) := by decide +kernel
theorem dX8_read_7 : decode cX8_read 7 = .ok (.bipush (-2), 2) := by decide +kernel
theorem dX8_read_9 : decode cX8_read 9 = .ok (.ireturn, 1) := by decide +kernel
theorem dX8_read_10 : decode cX8_read 10 = .ok (.aload_n 0, 1) := by decide +kernel
theorem dX8_read_11 : decode cX8_read 11 = .ok (.getfield 7, 3) := by decide +kernel
theorem dX8_read_14 : decode cX8_read 14 = .ok (.iload_n 1, 1) := by decide +kernel
theorem dX8_read_15 : decode cX8_read 15 = .ok (.iaload, 1) := by decide +kernel
theorem dX8_read_16 : decode cX8_read 16 = .ok (.ifCond .ge 9, 3) := by decide +kernel
theorem dX8_read_19 : decode cX8_read 19 = .ok (.aload_n 0, 1) := by decide +kernel
theorem dX8_read_20 : decode cX8_read 20 = .ok (.iconst 1, 1) := by decide +kernel
theorem dX8_read_21 : decode cX8_read 21 = .ok (.invokevirtual 88, 3) := by decide +kernel
theorem dX8_read_24 : decode cX8_read 24 = .ok (.ireturn, 1) := by decide +kernel
theorem dX8_read_25 : decode cX8_read 25 = .ok (.iconst 0, 1) := by decide +kernel
theorem dX8_read_26 : decode cX8_read 26 = .ok (.istore_n 2, 1) := by decide +kernel
theorem dX8_read_27 : decode cX8_read 27 = .ok (.iconst 1, 1) := by decide +kernel
theorem dX8_read_28 : decode cX8_read 28 = .ok (.istore_n 3, 1) := by decide +kernel
theorem dX8_read_29 : decode cX8_read 29 = .ok (.iload_n 3, 1) := by decide +kernel
theorem dX8_read_30 : decode cX8_read 30 = .ok (.ifCond .eq 73, 3) := by decide +kernel
theorem dX8_read_33 : decode cX8_read 33 = .ok (.iconst 2, 1) := by decide +kernel
theorem dX8_read_34 : decode cX8_read 34 = .ok (.iload_n 2, 1) := by decide +kernel
theorem dX8_read_35 : decode cX8_read 35 = .ok (.imul, 1) := by decide +kernel
theorem dX8_read_36 : decode cX8_read 36 = .ok (.iconst 2, 1) := by decide +kernel
theorem dX8_read_37 : decode cX8_read 37 = .ok (.iadd, 1) := by decide +kernel
theorem dX8_read_38 : decode cX8_read 38 = .ok (.aload_n 0, 1) := by decide +kernel
theorem dX8_read_39 : decode cX8_read 39 = .ok (.getfield 13, 3) := by decide +kernel
theorem dX8_read_42 : decode cX8_read 42 = .ok (.iload_n 1, 1) := by decide +kernel
theorem dX8_read_43 : decode cX8_read 43 = .ok (.iaload, 1) := by decide +kernel
theorem dX8_read_44 : decode cX8_read 44 = .ok (.if_icmp .gt 59, 3) := by decide +kernel
theorem dX8_read_47 : decode cX8_read 47 = .ok (.aload_n 0, 1) := by decide +kernel
theorem dX8_read_48 : decode cX8_read 48 = .ok (.aload_n 0, 1) := by decide +kernel
theorem dX8_read_49 : decode cX8_read 49 = .ok (.getfield 16, 3) := by decide +kernel
theorem dX8_read_52 : decode cX8_read 52 = .ok (.bipush 60, 2) := by decide +kernel
theorem dX8_read_54 : decode cX8_read 54 = .ok (.iload_n 1, 1) := by decide +kernel
theorem dX8_read_55 : decode cX8_read 55 = .ok (.imul, 1) := by decide +kernel
theorem dX8_read_56 : decode cX8_read 56 = .ok (.iconst 2, 1) := by decide +kernel
theorem dX8_read_57 : decode cX8_read 57 = .ok (.iload_n 2, 1) := by decide +kernel
theorem dX8_read_58 : decode cX8_read 58 = .ok (.imul, 1) := by decide +kernel
theorem dX8_read_59 : decode cX8_read 59 = .ok (.iadd, 1) := by decide +kernel
theorem dX8_read_60 : decode cX8_read 60 = .ok (.iaload, 1) := by decide +kernel
theorem dX8_read_61 : decode cX8_read 61 = .ok (.aload_n 0, 1) := by decide +kernel
theorem dX8_read_62 : decode cX8_read 62 = .ok (.getfield 16, 3) := by decide +kernel
theorem dX8_read_65 : decode cX8_read 65 = .ok (.bipush 60, 2) := by decide +kernel
theorem dX8_read_67 : decode cX8_read 67 = .ok (.iload_n 1, 1) := by decide +kernel
theorem dX8_read_68 : decode cX8_read 68 = .ok (.imul, 1) := by decide +kernel
theorem dX8_read_69 : decode cX8_read 69 = .ok (.iconst 2, 1) := by decide +kernel
theorem dX8_read_70 : decode cX8_read 70 = .ok (.iload_n 2, 1) := by decide +kernel
theorem dX8_read_71 : decode cX8_read 71 = .ok (.imul, 1) := by decide +kernel
theorem dX8_read_72 : decode cX8_read 72 = .ok (.iadd, 1) := by decide +kernel
theorem dX8_read_73 : decode cX8_read 73 = .ok (.iconst 1, 1) := by decide +kernel
theorem dX8_read_74 : decode cX8_read 74 = .ok (.iadd, 1) := by decide +kernel
theorem dX8_read_75 : decode cX8_read 75 = .ok (.iaload, 1) := by decide +kernel
theorem dX8_read_76 : decode cX8_read 76 = .ok (.invokevirtual 279, 3) := by decide +kernel
theorem dX8_read_79 : decode cX8_read 79 = .ok (.ifCond .lt 7, 3) := by decide +kernel
theorem dX8_read_82 : decode cX8_read 82 = .ok (.iconst 1, 1) := by decide +kernel
theorem dX8_read_83 : decode cX8_read 83 = .ok (.goto 4, 3) := by decide +kernel
theorem dX8_read_86 : decode cX8_read 86 = .ok (.iconst 0, 1) := by decide +kernel
theorem dX8_read_87 : decode cX8_read 87 = .ok (.istore_n 3, 1) := by decide +kernel
theorem dX8_read_88 : decode cX8_read 88 = .ok (.iload_n 2, 1) := by decide +kernel
theorem dX8_read_89 : decode cX8_read 89 = .ok (.iload_n 3, 1) := by decide +kernel
theorem dX8_read_90 : decode cX8_read 90 = .ok (.ifCond .eq 7, 3) := by decide +kernel
theorem dX8_read_93 : decode cX8_read 93 = .ok (.iconst 1, 1) := by decide +kernel
theorem dX8_read_94 : decode cX8_read 94 = .ok (.goto 4, 3) := by decide +kernel
theorem dX8_read_97 : decode cX8_read 97 = .ok (.iconst 0, 1) := by decide +kernel
theorem dX8_read_98 : decode cX8_read 98 = .ok (.iadd, 1) := by decide +kernel
theorem dX8_read_99 : decode cX8_read 99 = .ok (.istore_n 2, 1) := by decide +kernel
theorem dX8_read_100 : decode cX8_read 100 = .ok (.goto (-71), 3) := by decide +kernel
theorem dX8_read_103 : decode cX8_read 103 = .ok (.iload_n 2, 1) := by decide +kernel
theorem dX8_read_104 : decode cX8_read 104 = .ok (.ireturn, 1) := by decide +kernel
theorem dX8_leadsNow_0 : decode cX8_leadsNow 0 = .ok (.iconst 0, 1) := by decide +kernel
theorem dX8_leadsNow_1 : decode cX8_leadsNow 1 = .ok (.istore_n 1, 1) := by decide +kernel
theorem dX8_leadsNow_2 : decode cX8_leadsNow 2 = .ok (.aload_n 0, 1) := by decide +kernel
theorem dX8_leadsNow_3 : decode cX8_leadsNow 3 = .ok (.invokevirtual 155, 3) := by decide +kernel
theorem dX8_leadsNow_6 : decode cX8_leadsNow 6 = .ok (.iconst 0, 1) := by decide +kernel
theorem dX8_leadsNow_7 : decode cX8_leadsNow 7 = .ok (.istore_n 2, 1) := by decide +kernel
theorem dX8_leadsNow_8 : decode cX8_leadsNow 8 = .ok (.iload_n 2, 1) := by decide +kernel
theorem dX8_leadsNow_9 : decode cX8_leadsNow 9 = .ok (.bipush 31, 2) := by decide +kernel
theorem dX8_leadsNow_11 : decode cX8_leadsNow 11 = .ok (.if_icmp .ge 98, 3) := by decide +kernel
theorem dX8_leadsNow_14 : decode cX8_leadsNow 14 = .ok (.aload_n 0, 1) := by decide +kernel
theorem dX8_leadsNow_15 : decode cX8_leadsNow 15 = .ok (.iload_n 2, 1) := by decide +kernel
theorem dX8_leadsNow_16 : decode cX8_leadsNow 16 = .ok (.aload_n 0, 1) := by decide +kernel
theorem dX8_leadsNow_17 : decode cX8_leadsNow 17 = .ok (.getfield 34, 3) := by decide +kernel
theorem dX8_leadsNow_20 : decode cX8_leadsNow 20 = .ok (.iconst 4, 1) := by decide +kernel
theorem dX8_leadsNow_21 : decode cX8_leadsNow 21 = .ok (.iaload, 1) := by decide +kernel
theorem dX8_leadsNow_22 : decode cX8_leadsNow 22 = .ok (.aload_n 0, 1) := by decide +kernel
