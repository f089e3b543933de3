theorem dX8_copy_61 : decode cX8_copy 61 = .ok (.ireturn, 1) := by decide +kernel
theorem dX8_copy_62 : decode cX8_copy 62 = .ok (.iload_n 2, 1) := by decide +kernel
theorem dX8_copy_63 : decode cX8_copy 63 = .ok (.ifCond .lt 48, 3) := by decide +kernel
theorem dX8_copy_66 : decode cX8_copy 66 = .ok (.iload 4, 2) := by decide +kernel
theorem dX8_copy_68 : decode cX8_copy 68 = .ok (.ifCond .lt 43, 3) := by decide +kernel
theorem dX8_copy_71 : decode cX8_copy 71 = .ok (.iload 5, 2) := by decide +kernel
theorem dX8_copy_73 : decode cX8_copy 73 = .ok (.ifCond .lt 38, 3) := by decide +kernel
theorem dX8_copy_76 : decode cX8_copy 76 = .ok (.iload_n 2, 1) := by decide +kernel
theorem dX8_copy_77 : decode cX8_copy 77 = .ok (.i2l, 1) := by decide +kernel
theorem dX8_copy_78 : decode cX8_copy 78 = .ok (.iload 5, 2) := by decide +kernel
theorem dX8_copy_80 : decode cX8_copy 80 = .ok (.i2l, 1) := by decide +kernel
theorem dX8_copy_81 : decode cX8_copy 81 = .ok (.ladd, 1) := by decide +kernel
theorem dX8_copy_82 : decode cX8_copy 82 = .ok (.aload_n 0, 1) := by decide +kernel
theorem dX8_copy_83 : decode cX8_copy 83 = .ok (.getfield 13, 3) := by decide +kernel
theorem dX8_copy_86 : decode cX8_copy 86 = .ok (.iload_n 1, 1) := by decide +kernel
theorem dX8_copy_87 : decode cX8_copy 87 = .ok (.iaload, 1) := by decide +kernel
theorem dX8_copy_88 : decode cX8_copy 88 = .ok (.i2l, 1) := by decide +kernel
theorem dX8_copy_89 : decode cX8_copy 89 = .ok (.lcmp, 1) := by decide +kernel
theorem dX8_copy_90 : decode cX8_copy 90 = .ok (.ifCond .gt 21, 3) := by decide +kernel
theorem dX8_copy_93 : decode cX8_copy 93 = .ok (.iload 4, 2) := by decide +kernel
theorem dX8_copy_95 : decode cX8_copy 95 = .ok (.i2l, 1) := by decide +kernel
theorem dX8_copy_96 : decode cX8_copy 96 = .ok (.iload 5, 2) := by decide +kernel
theorem dX8_copy_98 : decode cX8_copy 98 = .ok (.i2l, 1) := by decide +kernel
theorem dX8_copy_99 : decode cX8_copy 99 = .ok (.ladd, 1) := by decide +kernel
theorem dX8_copy_100 : decode cX8_copy 100 = .ok (.aload_n 0, 1) := by decide +kernel
theorem dX8_copy_101 : decode cX8_copy 101 = .ok (.getfield 13, 3) := by decide +kernel
theorem dX8_copy_104 : decode cX8_copy 104 = .ok (.iload_n 3, 1) := by decide +kernel
theorem dX8_copy_105 : decode cX8_copy 105 = .ok (.iaload, 1) := by decide +kernel
theorem dX8_copy_106 : decode cX8_copy 106 = .ok (.i2l, 1) := by decide +kernel
theorem dX8_copy_107 : decode cX8_copy 107 = .ok (.lcmp, 1) := by decide +kernel
theorem dX8_copy_108 : decode cX8_copy 108 = .ok (.ifCond .le 9, 3) := by decide +kernel
theorem dX8_copy_111 : decode cX8_copy 111 = .ok (.aload_n 0, 1) := by decide +kernel
theorem dX8_copy_112 : decode cX8_copy 112 = .ok (.iconst 2, 1) := by decide +kernel
theorem dX8_copy_113 : decode cX8_copy 113 = .ok (.invokevirtual 88, 3) := by decide +kernel
theorem dX8_copy_116 : decode cX8_copy 116 = .ok (.ireturn, 1) := by decide +kernel
theorem dX8_copy_117 : decode cX8_copy 117 = .ok (.iconst 0, 1) := by decide +kernel
theorem dX8_copy_118 : decode cX8_copy 118 = .ok (.istore 6, 2) := by decide +kernel
theorem dX8_copy_120 : decode cX8_copy 120 = .ok (.iload 6, 2) := by decide +kernel
theorem dX8_copy_122 : decode cX8_copy 122 = .ok (.iload 5, 2) := by decide +kernel
theorem dX8_copy_124 : decode cX8_copy 124 = .ok (.if_icmp .ge 30, 3) := by decide +kernel
theorem dX8_copy_127 : decode cX8_copy 127 = .ok (.aload_n 0, 1) := by decide +kernel
theorem dX8_copy_128 : decode cX8_copy 128 = .ok (.getfield 19, 3) := by decide +kernel
theorem dX8_copy_131 : decode cX8_copy 131 = .ok (.iload 6, 2) := by decide +kernel
theorem dX8_copy_133 : decode cX8_copy 133 = .ok (.aload_n 0, 1) := by decide +kernel
theorem dX8_copy_134 : decode cX8_copy 134 = .ok (.getfield 16, 3) := by decide +kernel
theorem dX8_copy_137 : decode cX8_copy 137 = .ok (.bipush 60, 2) := by decide +kernel
theorem dX8_copy_139 : decode cX8_copy 139 = .ok (.iload_n 1, 1) := by decide +kernel
theorem dX8_copy_140 : decode cX8_copy 140 = .ok (.imul, 1) := by decide +kernel
theorem dX8_copy_141 : decode cX8_copy 141 = .ok (.iload_n 2, 1) := by decide +kernel
theorem dX8_copy_142 : decode cX8_copy 142 = .ok (.iadd, 1) := by decide +kernel
theorem dX8_copy_143 : decode cX8_copy 143 = .ok (.iload 6, 2) := by decide +kernel
theorem dX8_copy_145 : decode cX8_copy 145 = .ok (.iadd, 1) := by decide +kernel
theorem dX8_copy_146 : decode cX8_copy 146 = .ok (.iaload, 1) := by decide +kernel
theorem dX8_copy_147 : decode cX8_copy 147 = .ok (.iastore, 1) := by decide +kernel
theorem dX8_copy_148 : decode cX8_copy 148 = .ok (.iinc 6 1, 3) := by decide +kernel
theorem dX8_copy_151 : decode cX8_copy 151 = .ok (.goto (-31), 3) := by decide +kernel
theorem dX8_copy_154 : decode cX8_copy 154 = .ok (.iconst 0, 1) := by decide +kernel
theorem dX8_copy_155 : decode cX8_copy 155 = .ok (.istore 6, 2) := by decide +kernel
theorem dX8_copy_157 : decode cX8_copy 157 = .ok (.iload 6, 2) := by decide +kernel
theorem dX8_copy_159 : decode cX8_copy 159 = .ok (.iload 5, 2) := by decide +kernel
theorem dX8_copy_161 : decode cX8_copy 161 = .ok (.if_icmp .ge 31, 3) := by decide +kernel
theorem dX8_copy_164 : decode cX8_copy 164 = .ok (.aload_n 0, 1) := by decide +kernel
theorem dX8_copy_165 : decode cX8_copy 165 = .ok (.getfield 16, 3) := by decide +kernel
theorem dX8_copy_168 : decode cX8_copy 168 = .ok (.bipush 60, 2) := by decide +kernel
theorem dX8_copy_170 : decode cX8_copy 170 = .ok (.iload_n 3, 1) := by decide +kernel
theorem dX8_copy_171 : decode cX8_copy 171 = .ok (.imul, 1) := by decide +kernel
theorem dX8_copy_172 : decode cX8_copy 172 = .ok (.iload 4, 2) := by decide +kernel
theorem dX8_copy_174 : decode cX8_copy 174 = .ok (.iadd, 1) := by decide +kernel
theorem dX8_copy_175 : decode cX8_copy 175 = .ok (.iload 6, 2) := by decide +kernel
theorem dX8_copy_177 : decode cX8_copy 177 = .ok (.iadd, 1) := by decide +kernel
theorem dX8_copy_178 : decode cX8_copy 178 = .ok (.aload_n 0, 1) := by decide +kernel
theorem dX8_copy_179 : decode cX8_copy 179 = .ok (.getfield 19, 3) := by decide +kernel
theorem dX8_copy_182 : decode cX8_copy 182 = .ok (.iload 6, 2) := by decide +kernel
theorem dX8_copy_184 : decode cX8_copy 184 = .ok (.iaload, 1) := by decide +kernel
theorem dX8_copy_185 : decode cX8_copy 185 = .ok (.iastore, 1) := by decide +kernel
theorem dX8_copy_186 : decode cX8_copy 186 = .ok (.iinc 6 1, 3) := by decide +kernel
theorem dX8_copy_189 : decode cX8_copy 189 = .ok (.goto (-32), 3) := by decide +kernel
theorem dX8_copy_192 : decode cX8_copy 192 = .ok (.iconst 1, 1) := by decide +kernel
theorem dX8_copy_193 : decode cX8_copy 193 = .ok (.ireturn, 1) := by decide +kernel
theorem dX8_type_0 : decode cX8_type 0 = .ok (.iload_n 1, 1) := by decide +kernel
theorem dX8_type_1 : decode cX8_type 1 = .ok (.invokestatic 101, 3) := by decide +kernel
theorem dX8_type_4 : decode cX8_type 4 = .ok (.ifCond .eq 15, 3) := by decide +kernel
theorem dX8_type_7 : decode cX8_type 7 = .ok (.iload_n 2, 1) := by decide +kernel
theorem dX8_type_8 : decode cX8_type 8 = .ok (.i2l, 1) := by decide +kernel
theorem dX8_type_9 : decode cX8_type 9 = .ok (.lconst 0, 1) := by decide +kernel
theorem dX8_type_10 : decode cX8_type 10 = .ok (.ldc2_w 104, 3) := by decide +kernel
theorem dX8_type_13 : decode cX8_type 13 = .ok (.invokestatic 72, 3) := by decide +kernel
theorem dX8_type_16 : decode cX8_type 16 = .ok (.ifCond .ne 6, 3) := by decide +kernel
theorem dX8_type_19 : decode cX8_type 19 = .ok (.bipush (-2), 2) := by decide +kernel
theorem dX8_type_21 : decode cX8_type 21 = .ok (.ireturn, 1) := by decide +kernel
theorem dX8_type_22 : decode cX8_type 22 = .ok (.aload_n 0, 1) := by decide +kernel
theorem dX8_type_23 : decode cX8_type 23 = .ok (.getfield 25, 3) := by decide +kernel
theorem dX8_type_26 : decode cX8_type 26 = .ok (.iload_n 1, 1) := by decide +kernel
theorem dX8_type_27 : decode cX8_type 27 = .ok (.iaload, 1) := by decide +kernel
theorem dX8_type_28 : decode cX8_type 28 = .ok (.iload_n 1, 1) := by decide +kernel
theorem dX8_type_29 : decode cX8_type 29 = .ok (.ifCond .ne 8, 3) := by decide +kernel
theorem dX8_type_32 : decode cX8_type 32 = .ok (.bipush 59, 2) := by decide +kernel
theorem dX8_type_34 : decode cX8_type 34 = .ok (.goto 5, 3) := by decide +kernel
theorem dX8_type_37 : decode cX8_type 37 = .ok (.bipush 19, 2) := by decide +kernel
theorem dX8_type_39 : decode cX8_type 39 = .ok (.if_icmp .ne 6, 3) := by decide +kernel
theorem dX8_type_42 : decode cX8_type 42 = .ok (.bipush (-4), 2) := by decide +kernel
theorem dX8_type_44 : decode cX8_type 44 = .ok (.ireturn, 1) := by decide +kernel
theorem dX8_type_45 : decode cX8_type 45 = .ok (.aload_n 0, 1) := by decide +kernel
theorem dX8_type_46 : decode cX8_type 46 = .ok (.getfield 22, 3) := by decide +kernel
theorem dX8_type_49 : decode cX8_type 49 = .ok (.bipush 60, 2) := by decide +kernel
theorem dX8_type_51 : decode cX8_type 51 = .ok (.iload_n 1, 1) := by decide +kernel
theorem dX8_type_52 : decode cX8_type 52 = .ok (.imul, 1) := by decide +kernel
theorem dX8_type_53 : decode cX8_type 53 = .ok (.aload_n 0, 1) := by decide +kernel
theorem dX8_type_54 : decode cX8_type 54 = .ok (.getfield 25, 3) := by decide +kernel
theorem dX8_type_57 : decode cX8_type 57 = .ok (.iload_n 1, 1) := by decide +kernel
theorem dX8_type_58 : decode cX8_type 58 = .ok (.iaload, 1) := by decide +kernel
theorem dX8_type_59 : decode cX8_type 59 = .ok (.iadd, 1) := by decide +kernel
theorem dX8_type_60 : decode cX8_type 60 = .ok (.iload_n 2, 1) := by decide +kernel
theorem dX8_type_61 : decode cX8_type 61 = .ok (.iastore, 1) := by decide +kernel
theorem dX8_type_62 : decode cX8_type 62 = .ok (.aload_n 0, 1) := by decide +kernel
theorem dX8_type_63 : decode cX8_type 63 = .ok (.getfield 25, 3) := by decide +kernel
theorem dX8_type_66 : decode cX8_type 66 = .ok (.iload_n 1, 1) := by decide +kernel
theorem dX8_type_67 : decode cX8_type 67 = .ok (.dup2, 1) := by decide +kernel
theorem dX8_type_68 : decode cX8_type 68 = .ok (.iaload, 1) := by decide +kernel
theorem dX8_type_69 : decode cX8_type 69 = .ok (.iconst 1, 1) := by decide +kernel
theorem dX8_type_70 : decode cX8_type 70 = .ok (.iadd, 1) := by decide +kernel
theorem dX8_type_71 : decode cX8_type 71 = .ok (.iastore, 1) := by decide +kernel
theorem dX8_type_72 : decode cX8_type 72 = .ok (.aload_n 0, 1) := by decide +kernel
theorem dX8_type_73 : decode cX8_type 73 = .ok (.getfield 25, 3) := by decide +kernel
theorem dX8_type_76 : decode cX8_type 76 = .ok (.iload_n 1, 1) := by decide +kernel
theorem dX8_type_77 : decode cX8_type 77 = .ok (.iaload, 1) := by decide +kernel
theorem dX8_type_78 : decode cX8_type 78 = .ok (.ireturn, 1) := by decide +kernel
theorem dX8_wipe_0 : decode cX8_wipe 0 = .ok (.iload_n 1, 1) := by decide +kernel
theorem dX8_wipe_1 : decode cX8_wipe 1 = .ok (.invokestatic 101, 3) := by decide +kernel
theorem dX8_wipe_4 : decode cX8_wipe 4 = .ok (.ifCond .ne 6, 3) := by decide +kernel
theorem dX8_wipe_7 : decode cX8_wipe 7 = .ok (.bipush (-2), 2) := by decide +kernel
theorem dX8_wipe_9 : decode cX8_wipe 9 = .ok (.ireturn, 1) := by decide +kernel
theorem dX8_wipe_10 : decode cX8_wipe 10 = .ok (.aload_n 0, 1) := by decide +kernel
theorem dX8_wipe_11 : decode cX8_wipe 11 = .ok (.getfield 25, 3) := by decide +kernel
theorem dX8_wipe_14 : decode cX8_wipe 14 = .ok (.iload_n 1, 1) := by decide +kernel
theorem dX8_wipe_15 : decode cX8_wipe 15 = .ok (.iaload, 1) := by decide +kernel
theorem dX8_wipe_16 : decode cX8_wipe 16 = .ok (.istore_n 2, 1) := by decide +kernel
theorem dX8_wipe_17 : decode cX8_wipe 17 = .ok (.aload_n 0, 1) := by decide +kernel
theorem dX8_wipe_18 : decode cX8_wipe 18 = .ok (.getfield 25, 3) := by decide +kernel
theorem dX8_wipe_21 : decode cX8_wipe 21 = .ok (.iload_n 1, 1) := by decide +kernel
theorem dX8_wipe_22 : decode cX8_wipe 22 = .ok (.iconst 0, 1) := by decide +kernel
theorem dX8_wipe_23 : decode cX8_wipe 23 = .ok (.iastore, 1) := by decide +kernel
theorem dX8_wipe_24 : decode cX8_wipe 24 = .ok (.iload_n 2, 1) := by decide +kernel
theorem dX8_wipe_25 : decode cX8_wipe 25 = .ok (.ireturn, 1) := by decide +kernel
theorem dX8_here_0 : decode cX8_here 0 = .ok (.aload_n 0, 1) := by decide +kernel
theorem dX8_here_1 : decode cX8_here 1 = .ok (.getfield 106, 3) := by decide +kernel
theorem dX8_here_4 : decode cX8_here 4 = .ok (.aload_n 0, 1) := by decide +kernel
theorem dX8_here_5 : decode cX8_here 5 = .ok (.getfield 25, 3) := by decide +kernel
theorem dX8_here_8 : decode cX8_here 8 = .ok (.iload_n 1, 1) := by decide +kernel
theorem dX8_here_9 : decode cX8_here 9 = .ok (.iaload, 1) := by decide +kernel
theorem dX8_here_10 : decode cX8_here 10 = .ok (.if_icmp .ge 20, 3) := by decide +kernel
theorem dX8_here_13 : decode cX8_here 13 = .ok (.aload_n 0, 1) := by decide +kernel
theorem dX8_here_14 : decode cX8_here 14 = .ok (.getfield 22, 3) := by decide +kernel
theorem dX8_here_17 : decode cX8_here 17 = .ok (.bipush 60, 2) := by decide +kernel
theorem dX8_here_19 : decode cX8_here 19 = .ok (.iload_n 1, 1) := by decide +kernel
theorem dX8_here_20 : decode cX8_here 20 = .ok (.imul, 1) := by decide +kernel
theorem dX8_here_21 : decode cX8_here 21 = .ok (.aload_n 0, 1) := by decide +kernel
theorem dX8_here_22 : decode cX8_here 22 = .ok (.getfield 106, 3) := by decide +kernel
theorem dX8_here_25 : decode cX8_here 25 = .ok (.iadd, 1) := by decide +kernel
theorem dX8_here_26 : decode cX8_here 26 = .ok (.iaload, 1) := by decide +kernel
theorem dX8_here_27 : decode cX8_here 27 = .ok (.goto 4, 3) := by decide +kernel
theorem dX8_here_30 : decode cX8_here 30 = .ok (.iconst (-1), 1) := by decide +kernel
theorem dX8_here_31 : decode cX8_here 31 = .ok (.ireturn, 1) := by decide +kernel
theorem dX8_kindOf_0 : decode cX8_kindOf 0 = .ok (.iload_n 0, 1) := by decide +kernel
theorem dX8_kindOf_1 : decode cX8_kindOf 1 = .ok (.bipush 112, 2) := by decide +kernel
theorem dX8_kindOf_3 : decode cX8_kindOf 3 = .ok (.if_icmp .ne 7, 3) := by decide +kernel
theorem dX8_kindOf_6 : decode cX8_kindOf 6 = .ok (.iconst 0, 1) := by decide +kernel
theorem dX8_kindOf_7 : decode cX8_kindOf 7 = .ok (.goto 34, 3) := by decide +kernel
theorem dX8_kindOf_10 : decode cX8_kindOf 10 = .ok (.iload_n 0, 1) := by decide +kernel
theorem dX8_kindOf_11 : decode cX8_kindOf 11 = .ok (.bipush 99, 2) := by decide +kernel
theorem dX8_kindOf_13 : decode cX8_kindOf 13 = .ok (.if_icmp .ne 7, 3) := by decide +kernel
theorem dX8_kindOf_16 : decode cX8_kindOf 16 = .ok (.iconst 1, 1) := by decide +kernel
theorem dX8_kindOf_17 : decode cX8_kindOf 17 = .ok (.goto 24, 3) := by decide +kernel
theorem dX8_kindOf_20 : decode cX8_kindOf 20 = .ok (.iload_n 0, 1) := by decide +kernel
theorem dX8_kindOf_21 : decode cX8_kindOf 21 = .ok (.bipush 108, 2) := by decide +kernel
theorem dX8_kindOf_23 : decode cX8_kindOf 23 = .ok (.if_icmp .ne 7, 3) := by decide +kernel
theorem dX8_kindOf_26 : decode cX8_kindOf 26 = .ok (.iconst 2, 1) := by decide +kernel
theorem dX8_kindOf_27 : decode cX8_kindOf 27 = .ok (.goto 14, 3) := by decide +kernel
theorem dX8_kindOf_30 : decode cX8_kindOf 30 = .ok (.iload_n 0, 1) := by decide +kernel
theorem dX8_kindOf_31 : decode cX8_kindOf 31 = .ok (.bipush 114, 2) := by decide +kernel
theorem dX8_kindOf_33 : decode cX8_kindOf 33 = .ok (.if_icmp .ne 7, 3) := by decide +kernel
theorem dX8_kindOf_36 : decode cX8_kindOf 36 = .ok (.iconst 3, 1) := by decide +kernel
theorem dX8_kindOf_37 : decode cX8_kindOf 37 = .ok (.goto 4, 3) := by decide +kernel
theorem dX8_kindOf_40 : decode cX8_kindOf 40 = .ok (.iconst (-1), 1) := by decide +kernel
theorem dX8_kindOf_41 : decode cX8_kindOf 41 = .ok (.ireturn, 1) := by decide +kernel
theorem dX8_readsVerse_0 : decode cX8_readsVerse 0 = .ok (.aload_n 0, 1) := by decide +kernel
theorem dX8_readsVerse_1 : decode cX8_readsVerse 1 = .ok (.iload_n 1, 1) := by decide +kernel
theorem dX8_readsVerse_2 : decode cX8_readsVerse 2 = .ok (.invokevirtual 109, 3) := by decide +kernel
theorem dX8_readsVerse_5 : decode cX8_readsVerse 5 = .ok (.invokestatic 112, 3) := by decide +kernel
theorem dX8_readsVerse_8 : decode cX8_readsVerse 8 = .ok (.istore_n 2, 1) := by decide +kernel
theorem dX8_readsVerse_9 : decode cX8_readsVerse 9 = .ok (.aload_n 0, 1) := by decide +kernel
theorem dX8_readsVerse_10 : decode cX8_readsVerse 10 = .ok (.getfield 28, 3) := by decide +kernel
theorem dX8_readsVerse_13 : decode cX8_readsVerse 13 = .ok (.iload_n 1, 1) := by decide +kernel
theorem dX8_readsVerse_14 : decode cX8_readsVerse 14 = .ok (.iaload, 1) := by decide +kernel
theorem dX8_readsVerse_15 : decode cX8_readsVerse 15 = .ok (.iload_n 1, 1) := by decide +kernel
theorem dX8_readsVerse_16 : decode cX8_readsVerse 16 = .ok (.ifCond .ne 8, 3) := by decide +kernel
theorem dX8_readsVerse_19 : decode cX8_readsVerse 19 = .ok (.bipush 12, 2) := by decide +kernel
theorem dX8_readsVerse_21 : decode cX8_readsVerse 21 = .ok (.goto 4, 3) := by decide +kernel
theorem dX8_readsVerse_24 : decode cX8_readsVerse 24 = .ok (.iconst 4, 1) := by decide +kernel
theorem dX8_readsVerse_25 : decode cX8_readsVerse 25 = .ok (.if_icmp .eq 8, 3) := by decide +kernel
theorem dX8_readsVerse_28 : decode cX8_readsVerse 28 = .ok (.iload_n 2, 1) := by decide +kernel
theorem dX8_readsVerse_29 : decode cX8_readsVerse 29 = .ok (.iconst (-1), 1) := by decide +kernel
theorem dX8_readsVerse_30 : decode cX8_readsVerse 30 = .ok (.if_icmp .ne 5, 3) := by decide +kernel
theorem dX8_readsVerse_33 : decode cX8_readsVerse 33 = .ok (.iconst 0, 1) := by decide +kernel
theorem dX8_readsVerse_34 : decode cX8_readsVerse 34 = .ok (.ireturn, 1) := by decide +kernel
theorem dX8_readsVerse_35 : decode cX8_readsVerse 35 = .ok (.iconst 4, 1) := by decide +kernel
theorem dX8_readsVerse_36 : decode cX8_readsVerse 36 = .ok (.bipush 12, 2) := by decide +kernel
theorem dX8_readsVerse_38 : decode cX8_readsVerse 38 = .ok (.iload_n 1, 1) := by decide +kernel
theorem dX8_readsVerse_39 : decode cX8_readsVerse 39 = .ok (.imul, 1) := by decide +kernel
theorem dX8_readsVerse_40 : decode cX8_readsVerse 40 = .ok (.aload_n 0, 1) := by decide +kernel
theorem dX8_readsVerse_41 : decode cX8_readsVerse 41 = .ok (.getfield 28, 3) := by decide +kernel
theorem dX8_readsVerse_44 : decode cX8_readsVerse 44 = .ok (.iload_n 1, 1) := by decide +kernel
theorem dX8_readsVerse_45 : decode cX8_readsVerse 45 = .ok (.iaload, 1) := by decide +kernel
theorem dX8_readsVerse_46 : decode cX8_readsVerse 46 = .ok (.iadd, 1) := by decide +kernel
theorem dX8_readsVerse_47 : decode cX8_readsVerse 47 = .ok (.imul, 1) := by decide +kernel
theorem dX8_readsVerse_48 : decode cX8_readsVerse 48 = .ok (.istore_n 3, 1) := by decide +kernel
theorem dX8_readsVerse_49 : decode cX8_readsVerse 49 = .ok (.aload_n 0, 1) := by decide +kernel
theorem dX8_readsVerse_50 : decode cX8_readsVerse 50 = .ok (.dup, 1) := by decide +kernel
theorem dX8_readsVerse_51 : decode cX8_readsVerse 51 = .ok (.getfield 106, 3) := by decide +kernel
theorem dX8_readsVerse_54 : decode cX8_readsVerse 54 = .ok (.iconst 1, 1) := by decide +kernel
theorem dX8_readsVerse_55 : decode cX8_readsVerse 55 = .ok (.iadd, 1) := by decide +kernel
theorem dX8_readsVerse_56 : decode cX8_readsVerse 56 = .ok (.putfield 106, 3) := by decide +kernel
theorem dX8_readsVerse_59 : decode cX8_readsVerse 59 = .ok (.iconst 0, 1) := by decide +kernel
theorem dX8_readsVerse_60 : decode cX8_readsVerse 60 = .ok (.istore 4, 2) := by decide +kernel
theorem dX8_readsVerse_62 : decode cX8_readsVerse 62 = .ok (.iload 4, 2) := by decide +kernel
theorem dX8_readsVerse_64 : decode cX8_readsVerse 64 = .ok (.iconst 3, 1) := by decide +kernel
theorem dX8_readsVerse_65 : decode cX8_readsVerse 65 = .ok (.if_icmp .ge 65, 3) := by decide +kernel
theorem dX8_readsVerse_68 : decode cX8_readsVerse 68 = .ok (.aload_n 0, 1) := by decide +kernel
theorem dX8_readsVerse_69 : decode cX8_readsVerse 69 = .ok (.iload_n 1, 1) := by decide +kernel
theorem dX8_readsVerse_70 : decode cX8_readsVerse 70 = .ok (.invokevirtual 109, 3) := by decide +kernel
theorem dX8_readsVerse_73 : decode cX8_readsVerse 73 = .ok (.bipush 48, 2) := by decide +kernel
theorem dX8_readsVerse_75 : decode cX8_readsVerse 75 = .ok (.isub, 1) := by decide +kernel
theorem dX8_readsVerse_76 : decode cX8_readsVerse 76 = .ok (.istore 5, 2) := by decide +kernel
theorem dX8_readsVerse_78 : decode cX8_readsVerse 78 = .ok (.iload 5, 2) := by decide +kernel
theorem dX8_readsVerse_80 : decode cX8_readsVerse 80 = .ok (.i2l, 1) := by decide +kernel
theorem dX8_readsVerse_81 : decode cX8_readsVerse 81 = .ok (.iload 4, 2) := by decide +kernel
theorem dX8_readsVerse_83 : decode cX8_readsVerse 83 = .ok (.iconst 1, 1) := by decide +kernel
theorem dX8_readsVerse_84 : decode cX8_readsVerse 84 = .ok (.if_icmp .ne 7, 3) := by decide +kernel
theorem dX8_readsVerse_87 : decode cX8_readsVerse 87 = .ok (.lconst 1, 1) := by decide +kernel
theorem dX8_readsVerse_88 : decode cX8_readsVerse 88 = .ok (.goto 4, 3) := by decide +kernel
theorem dX8_readsVerse_91 : decode cX8_readsVerse 91 = .ok (.lconst 0, 1) := by decide +kernel
theorem dX8_readsVerse_92 : decode cX8_readsVerse 92 = .ok (.ldc2_w 115, 3) := by decide +kernel
theorem dX8_readsVerse_95 : decode cX8_readsVerse 95 = .ok (.invokestatic 72, 3) := by decide +kernel
theorem dX8_readsVerse_98 : decode cX8_readsVerse 98 = .ok (.ifCond .ne 5, 3) := by decide +kernel
theorem dX8_readsVerse_101 : decode cX8_readsVerse 101 = .ok (.iconst 0, 1) := by decide +kernel
theorem dX8_readsVerse_102 : decode cX8_readsVerse 102 = .ok (.ireturn, 1) := by decide +kernel
theorem dX8_readsVerse_103 : decode cX8_readsVerse 103 = .ok (.aload_n 0, 1) := by decide +kernel
theorem dX8_readsVerse_104 : decode cX8_readsVerse 104 = .ok (.getfield 31, 3) := by decide +kernel
theorem dX8_readsVerse_107 : decode cX8_readsVerse 107 = .ok (.iload_n 3, 1) := by decide +kernel
theorem dX8_readsVerse_108 : decode cX8_readsVerse 108 = .ok (.iload 4, 2) := by decide +kernel
theorem dX8_readsVerse_110 : decode cX8_readsVerse 110 = .ok (.iadd, 1) := by decide +kernel
theorem dX8_readsVerse_111 : decode cX8_readsVerse 111 = .ok (.iload 5, 2) := by decide +kernel
theorem dX8_readsVerse_113 : decode cX8_readsVerse 113 = .ok (.iastore, 1) := by decide +kernel
theorem dX8_readsVerse_114 : decode cX8_readsVerse 114 = .ok (.aload_n 0, 1) := by decide +kernel
theorem dX8_readsVerse_115 : decode cX8_readsVerse 115 = .ok (.dup, 1) := by decide +kernel
theorem dX8_readsVerse_116 : decode cX8_readsVerse 116 = .ok (.getfield 106, 3) := by decide +kernel
theorem dX8_readsVerse_119 : decode cX8_readsVerse 119 = .ok (.iconst 1, 1) := by decide +kernel
theorem dX8_readsVerse_120 : decode cX8_readsVerse 120 = .ok (.iadd, 1) := by decide +kernel
theorem dX8_readsVerse_121 : decode cX8_readsVerse 121 = .ok (.putfield 106, 3) := by decide +kernel
theorem dX8_readsVerse_124 : decode cX8_readsVerse 124 = .ok (.iinc 4 1, 3) := by decide +kernel
theorem dX8_readsVerse_127 : decode cX8_readsVerse 127 = .ok (.goto (-65), 3) := by decide +kernel
theorem dX8_readsVerse_130 : decode cX8_readsVerse 130 = .ok (.aload_n 0, 1) := by decide +kernel
theorem dX8_readsVerse_131 : decode cX8_readsVerse 131 = .ok (.getfield 31, 3) := by decide +kernel
theorem dX8_readsVerse_134 : decode cX8_readsVerse 134 = .ok (.iload_n 3, 1) := by decide +kernel
theorem dX8_readsVerse_135 : decode cX8_readsVerse 135 = .ok (.iconst 3, 1) := by decide +kernel
theorem dX8_readsVerse_136 : decode cX8_readsVerse 136 = .ok (.iadd, 1) := by decide +kernel
theorem dX8_readsVerse_137 : decode cX8_readsVerse 137 = .ok (.iload_n 2, 1) := by decide +kernel
theorem dX8_readsVerse_138 : decode cX8_readsVerse 138 = .ok (.iastore, 1) := by decide +kernel
theorem dX8_readsVerse_139 : decode cX8_readsVerse 139 = .ok (.aload_n 0, 1) := by decide +kernel
theorem dX8_readsVerse_140 : decode cX8_readsVerse 140 = .ok (.getfield 28, 3) := by decide +kernel
theorem dX8_readsVerse_143 : decode cX8_readsVerse 143 = .ok (.iload_n 1, 1) := by decide +kernel
theorem dX8_readsVerse_144 : decode cX8_readsVerse 144 = .ok (.dup2, 1) := by decide +kernel
theorem dX8_readsVerse_145 : decode cX8_readsVerse 145 = .ok (.iaload, 1) := by decide +kernel
theorem dX8_readsVerse_146 : decode cX8_readsVerse 146 = .ok (.iconst 1, 1) := by decide +kernel
theorem dX8_readsVerse_147 : decode cX8_readsVerse 147 = .ok (.iadd, 1) := by decide +kernel
theorem dX8_readsVerse_148 : decode cX8_readsVerse 148 = .ok (.iastore, 1) := by decide +kernel
theorem dX8_readsVerse_149 : decode cX8_readsVerse 149 = .ok (.iconst 1, 1) := by decide +kernel
theorem dX8_readsVerse_150 : decode cX8_readsVerse 150 = .ok (.ireturn, 1) := by decide +kernel
theorem dX8_readsText_0 : decode cX8_readsText 0 = .ok (.aload_n 0, 1) := by decide +kernel
theorem dX8_readsText_1 : decode cX8_readsText 1 = .ok (.iconst 0, 1) := by decide +kernel
theorem dX8_readsText_2 : decode cX8_readsText 2 = .ok (.putfield 106, 3) := by decide +kernel
theorem dX8_readsText_5 : decode cX8_readsText 5 = .ok (.aload_n 0, 1) := by decide +kernel
theorem dX8_readsText_6 : decode cX8_readsText 6 = .ok (.getfield 28, 3) := by decide +kernel
theorem dX8_readsText_9 : decode cX8_readsText 9 = .ok (.iload_n 1, 1) := by decide +kernel
theorem dX8_readsText_10 : decode cX8_readsText 10 = .ok (.iconst 0, 1) := by decide +kernel
theorem dX8_readsText_11 : decode cX8_readsText 11 = .ok (.iastore, 1) := by decide +kernel
theorem dX8_readsText_12 : decode cX8_readsText 12 = .ok (.aload_n 0, 1) := by decide +kernel
theorem dX8_readsText_13 : decode cX8_readsText 13 = .ok (.getfield 25, 3) := by decide +kernel
theorem dX8_readsText_16 : decode cX8_readsText 16 = .ok (.iload_n 1, 1) := by decide +kernel
theorem dX8_readsText_17 : decode cX8_readsText 17 = .ok (.iaload, 1) := by decide +kernel
theorem dX8_readsText_18 : decode cX8_readsText 18 = .ok (.ifCond .le 7, 3) := by decide +kernel
theorem dX8_readsText_21 : decode cX8_readsText 21 = .ok (.iconst 1, 1) := by decide +kernel
theorem dX8_readsText_22 : decode cX8_readsText 22 = .ok (.goto 4, 3) := by decide +kernel
theorem dX8_readsText_25 : decode cX8_readsText 25 = .ok (.iconst 0, 1) := by decide +kernel
theorem dX8_readsText_26 : decode cX8_readsText 26 = .ok (.istore_n 2, 1) := by decide +kernel
theorem dX8_readsText_27 : decode cX8_readsText 27 = .ok (.iload_n 2, 1) := by decide +kernel
theorem dX8_readsText_28 : decode cX8_readsText 28 = .ok (.ifCond .eq 83, 3) := by decide +kernel
theorem dX8_readsText_31 : decode cX8_readsText 31 = .ok (.aload_n 0, 1) := by decide +kernel
theorem dX8_readsText_32 : decode cX8_readsText 32 = .ok (.iload_n 1, 1) := by decide +kernel
theorem dX8_readsText_33 : decode cX8_readsText 33 = .ok (.invokevirtual 117, 3) := by decide +kernel
theorem dX8_readsText_36 : decode cX8_readsText 36 = .ok (.istore_n 3, 1) := by decide +kernel
theorem dX8_readsText_37 : decode cX8_readsText 37 = .ok (.iload_n 3, 1) := by decide +kernel
theorem dX8_readsText_38 : decode cX8_readsText 38 = .ok (.ifCond .eq 20, 3) := by decide +kernel
theorem dX8_readsText_41 : decode cX8_readsText 41 = .ok (.aload_n 0, 1) := by decide +kernel
theorem dX8_readsText_42 : decode cX8_readsText 42 = .ok (.getfield 106, 3) := by decide +kernel
theorem dX8_readsText_45 : decode cX8_readsText 45 = .ok (.aload_n 0, 1) := by decide +kernel
theorem dX8_readsText_46 : decode cX8_readsText 46 = .ok (.getfield 25, 3) := by decide +kernel
theorem dX8_readsText_49 : decode cX8_readsText 49 = .ok (.iload_n 1, 1) := by decide +kernel
theorem dX8_readsText_50 : decode cX8_readsText 50 = .ok (.iaload, 1) := by decide +kernel
theorem dX8_readsText_51 : decode cX8_readsText 51 = .ok (.if_icmp .ge 7, 3) := by decide +kernel
theorem dX8_readsText_54 : decode cX8_readsText 54 = .ok (.iconst 1, 1) := by decide +kernel
theorem dX8_readsText_55 : decode cX8_readsText 55 = .ok (.goto 4, 3) := by decide +kernel
theorem dX8_readsText_58 : decode cX8_readsText 58 = .ok (.iconst 0, 1) := by decide +kernel
theorem dX8_readsText_59 : decode cX8_readsText 59 = .ok (.istore_n 2, 1) := by decide +kernel
theorem dX8_readsText_60 : decode cX8_readsText 60 = .ok (.iload_n 3, 1) := by decide +kernel
theorem dX8_readsText_61 : decode cX8_readsText 61 = .ok (.ifCond .eq 17, 3) := by decide +kernel
theorem dX8_readsText_64 : decode cX8_readsText 64 = .ok (.iload_n 2, 1) := by decide +kernel
theorem dX8_readsText_65 : decode cX8_readsText 65 = .ok (.ifCond .eq 25, 3) := by decide +kernel
theorem dX8_readsText_68 : decode cX8_readsText 68 = .ok (.aload_n 0, 1) := by decide +kernel
theorem dX8_readsText_69 : decode cX8_readsText 69 = .ok (.iload_n 1, 1) := by decide +kernel
theorem dX8_readsText_70 : decode cX8_readsText 70 = .ok (.invokevirtual 109, 3) := by decide +kernel
theorem dX8_readsText_73 : decode cX8_readsText 73 = .ok (.bipush 59, 2) := by decide +kernel
theorem dX8_readsText_75 : decode cX8_readsText 75 = .ok (.if_icmp .eq 15, 3) := by decide +kernel
theorem dX8_readsText_78 : decode cX8_readsText 78 = .ok (.aload_n 0, 1) := by decide +kernel
theorem dX8_readsText_79 : decode cX8_readsText 79 = .ok (.getfield 28, 3) := by decide +kernel
theorem dX8_readsText_82 : decode cX8_readsText 82 = .ok (.iload_n 1, 1) := by decide +kernel
theorem dX8_readsText_83 : decode cX8_readsText 83 = .ok (.iconst 0, 1) := by decide +kernel
theorem dX8_readsText_84 : decode cX8_readsText 84 = .ok (.iastore, 1) := by decide +kernel
theorem dX8_readsText_85 : decode cX8_readsText 85 = .ok (.aload_n 0, 1) := by decide +kernel
theorem dX8_readsText_86 : decode cX8_readsText 86 = .ok (.getfield 106, 3) := by decide +kernel
theorem dX8_readsText_89 : decode cX8_readsText 89 = .ok (.ireturn, 1) := by decide +kernel
theorem dX8_readsText_90 : decode cX8_readsText 90 = .ok (.aload_n 0, 1) := by decide +kernel
theorem dX8_readsText_91 : decode cX8_readsText 91 = .ok (.dup, 1) := by decide +kernel
theorem dX8_readsText_92 : decode cX8_readsText 92 = .ok (.getfield 106, 3) := by decide +kernel
theorem dX8_readsText_95 : decode cX8_readsText 95 = .ok (.iload_n 2, 1) := by decide +kernel
theorem dX8_readsText_96 : decode cX8_readsText 96 = .ok (.ifCond .eq 7, 3) := by decide +kernel
theorem dX8_readsText_99 : decode cX8_readsText 99 = .ok (.iconst 1, 1) := by decide +kernel
theorem dX8_readsText_100 : decode cX8_readsText 100 = .ok (.goto 4, 3) := by decide +kernel
theorem dX8_readsText_103 : decode cX8_readsText 103 = .ok (.iconst 0, 1) := by decide +kernel
theorem dX8_readsText_104 : decode cX8_readsText 104 = .ok (.iadd, 1) := by decide +kernel
theorem dX8_readsText_105 : decode cX8_readsText 105 = .ok (.putfield 106, 3) := by decide +kernel
theorem dX8_readsText_108 : decode cX8_readsText 108 = .ok (.goto (-81), 3) := by decide +kernel
theorem dX8_readsText_111 : decode cX8_readsText 111 = .ok (.iconst (-1), 1) := by decide +kernel
theorem dX8_readsText_112 : decode cX8_readsText 112 = .ok (.ireturn, 1) := by decide +kernel
theorem dX8_fault_0 : decode cX8_fault 0 = .ok (.iload_n 1, 1) := by decide +kernel
theorem dX8_fault_1 : decode cX8_fault 1 = .ok (.invokestatic 101, 3) := by decide +kernel
theorem dX8_fault_4 : decode cX8_fault 4 = .ok (.ifCond .eq 11, 3) := by decide +kernel
theorem dX8_fault_7 : decode cX8_fault 7 = .ok (.aload_n 0, 1) := by decide +kernel
theorem dX8_fault_8 : decode cX8_fault 8 = .ok (.iload_n 1, 1) := by decide +kernel
theorem dX8_fault_9 : decode cX8_fault 9 = .ok (.invokevirtual 120, 3) := by decide +kernel
theorem dX8_fault_12 : decode cX8_fault 12 = .ok (.goto 5, 3) := by decide +kernel
theorem dX8_fault_15 : decode cX8_fault 15 = .ok (.bipush (-2), 2) := by decide +kernel
theorem dX8_fault_17 : decode cX8_fault 17 = .ok (.ireturn, 1) := by decide +kernel
theorem dX8_undo_0 : decode cX8_undo 0 = .ok (.iload_n 1, 1) := by decide +kernel
theorem dX8_undo_1 : decode cX8_undo 1 = .ok (.invokestatic 101, 3) := by decide +kernel
theorem dX8_undo_4 : decode cX8_undo 4 = .ok (.ifCond .ne 6, 3) := by decide +kernel
theorem dX8_undo_7 : decode cX8_undo 7 = .ok (.bipush (-2), 2) := by decide +kernel
theorem dX8_undo_9 : decode cX8_undo 9 = .ok (.ireturn, 1) := by decide +kernel
theorem dX8_undo_10 : decode cX8_undo 10 = .ok (.aload_n 0, 1) := by decide +kernel
theorem dX8_undo_11 : decode cX8_undo 11 = .ok (.iload_n 1, 1) := by decide +kernel
theorem dX8_undo_12 : decode cX8_undo 12 = .ok (.invokevirtual 120, 3) := by decide +kernel
theorem dX8_undo_15 : decode cX8_undo 15 = .ok (.pop, 1) := by decide +kernel
theorem dX8_undo_16 : decode cX8_undo 16 = .ok (.aload_n 0, 1) := by decide +kernel
theorem dX8_undo_17 : decode cX8_undo 17 = .ok (.getfield 28, 3) := by decide +kernel
theorem dX8_undo_20 : decode cX8_undo 20 = .ok (.iload_n 1, 1) := by decide +kernel
theorem dX8_undo_21 : decode cX8_undo 21 = .ok (.iaload, 1) := by decide +kernel
theorem dX8_undo_22 : decode cX8_undo 22 = .ok (.ifCond .ne 6, 3) := by decide +kernel
theorem dX8_undo_25 : decode cX8_undo 25 = .ok (.bipush (-3), 2) := by decide +kernel
theorem dX8_undo_27 : decode cX8_undo 27 = .ok (.ireturn, 1) := by decide +kernel
theorem dX8_undo_28 : decode cX8_undo 28 = .ok (.aload_n 0, 1) := by decide +kernel
theorem dX8_undo_29 : decode cX8_undo 29 = .ok (.getfield 25, 3) := by decide +kernel
theorem dX8_undo_32 : decode cX8_undo 32 = .ok (.iload_n 1, 1) := by decide +kernel
theorem dX8_undo_33 : decode cX8_undo 33 = .ok (.dup2, 1) := by decide +kernel
theorem dX8_undo_34 : decode cX8_undo 34 = .ok (.iaload, 1) := by decide +kernel
theorem dX8_undo_35 : decode cX8_undo 35 = .ok (.aload_n 0, 1) := by decide +kernel
theorem dX8_undo_36 : decode cX8_undo 36 = .ok (.getfield 28, 3) := by decide +kernel
theorem dX8_undo_39 : decode cX8_undo 39 = .ok (.iload_n 1, 1) := by decide +kernel
theorem dX8_undo_40 : decode cX8_undo 40 = .ok (.iaload, 1) := by decide +kernel
theorem dX8_undo_41 : decode cX8_undo 41 = .ok (.iconst 1, 1) := by decide +kernel
theorem dX8_undo_42 : decode cX8_undo 42 = .ok (.if_icmp .ne 7, 3) := by decide +kernel
theorem dX8_undo_45 : decode cX8_undo 45 = .ok (.iconst 4, 1) := by decide +kernel
theorem dX8_undo_46 : decode cX8_undo 46 = .ok (.goto 4, 3) := by decide +kernel
theorem dX8_undo_49 : decode cX8_undo 49 = .ok (.iconst 5, 1) := by decide +kernel
theorem dX8_undo_50 : decode cX8_undo 50 = .ok (.isub, 1) := by decide +kernel
theorem dX8_undo_51 : decode cX8_undo 51 = .ok (.iastore, 1) := by decide +kernel
theorem dX8_undo_52 : decode cX8_undo 52 = .ok (.aload_n 0, 1) := by decide +kernel
theorem dX8_undo_53 : decode cX8_undo 53 = .ok (.getfield 28, 3) := by decide +kernel
theorem dX8_undo_56 : decode cX8_undo 56 = .ok (.iload_n 1, 1) := by decide +kernel
theorem dX8_undo_57 : decode cX8_undo 57 = .ok (.iaload, 1) := by decide +kernel
theorem dX8_undo_58 : decode cX8_undo 58 = .ok (.iconst 1, 1) := by decide +kernel
theorem dX8_undo_59 : decode cX8_undo 59 = .ok (.isub, 1) := by decide +kernel
theorem dX8_undo_60 : decode cX8_undo 60 = .ok (.ireturn, 1) := by decide +kernel
theorem dX8_most_0 : decode cX8_most 0 = .ok (.iload_n 0, 1) := by decide +kernel
theorem dX8_most_1 : decode cX8_most 1 = .ok (.iconst 2, 1) := by decide +kernel
theorem dX8_most_2 : decode cX8_most 2 = .ok (.if_icmp .ge 8, 3) := by decide +kernel
theorem dX8_most_5 : decode cX8_most 5 = .ok (.bipush 99, 2) := by decide +kernel
theorem dX8_most_7 : decode cX8_most 7 = .ok (.goto 25, 3) := by decide +kernel
theorem dX8_most_10 : decode cX8_most 10 = .ok (.iload_n 0, 1) := by decide +kernel
theorem dX8_most_11 : decode cX8_most 11 = .ok (.iconst 4, 1) := by decide +kernel
theorem dX8_most_12 : decode cX8_most 12 = .ok (.if_icmp .ge 8, 3) := by decide +kernel
theorem dX8_most_15 : decode cX8_most 15 = .ok (.bipush 9, 2) := by decide +kernel
theorem dX8_most_17 : decode cX8_most 17 = .ok (.goto 15, 3) := by decide +kernel
theorem dX8_most_20 : decode cX8_most 20 = .ok (.iload_n 0, 1) := by decide +kernel
theorem dX8_most_21 : decode cX8_most 21 = .ok (.iconst 4, 1) := by decide +kernel
theorem dX8_most_22 : decode cX8_most 22 = .ok (.if_icmp .ne 7, 3) := by decide +kernel
theorem dX8_most_25 : decode cX8_most 25 = .ok (.iconst 1, 1) := by decide +kernel
theorem dX8_most_26 : decode cX8_most 26 = .ok (.goto 6, 3) := by decide +kernel
theorem dX8_most_29 : decode cX8_most 29 = .ok (.sipush 4095, 3) := by decide +kernel
theorem dX8_most_32 : decode cX8_most 32 = .ok (.ireturn, 1) := by decide +kernel
theorem dX8_set_0 : decode cX8_set 0 = .ok (.iload_n 1, 1) := by decide +kernel
theorem dX8_set_1 : decode cX8_set 1 = .ok (.i2l, 1) := by decide +kernel
theorem dX8_set_2 : decode cX8_set 2 = .ok (.lconst 0, 1) := by decide +kernel
theorem dX8_set_3 : decode cX8_set 3 = .ok (.ldc2_w 123, 3) := by decide +kernel
theorem dX8_set_6 : decode cX8_set 6 = .ok (.invokestatic 72, 3) := by decide +kernel
theorem dX8_set_9 : decode cX8_set 9 = .ok (.ifCond .eq 26, 3) := by decide +kernel
theorem dX8_set_12 : decode cX8_set 12 = .ok (.iload_n 2, 1) := by decide +kernel
theorem dX8_set_13 : decode cX8_set 13 = .ok (.i2l, 1) := by decide +kernel
theorem dX8_set_14 : decode cX8_set 14 = .ok (.iload_n 1, 1) := by decide +kernel
theorem dX8_set_15 : decode cX8_set 15 = .ok (.iconst 1, 1) := by decide +kernel
theorem dX8_set_16 : decode cX8_set 16 = .ok (.if_icmp .ne 7, 3) := by decide +kernel
theorem dX8_set_19 : decode cX8_set 19 = .ok (.lconst 1, 1) := by decide +kernel
theorem dX8_set_20 : decode cX8_set 20 = .ok (.goto 4, 3) := by decide +kernel
theorem dX8_set_23 : decode cX8_set 23 = .ok (.lconst 0, 1) := by decide +kernel
theorem dX8_set_24 : decode cX8_set 24 = .ok (.iload_n 1, 1) := by decide +kernel
theorem dX8_set_25 : decode cX8_set 25 = .ok (.invokestatic 125, 3) := by decide +kernel
theorem dX8_set_28 : decode cX8_set 28 = .ok (.i2l, 1) := by decide +kernel
theorem dX8_set_29 : decode cX8_set 29 = .ok (.invokestatic 72, 3) := by decide +kernel
theorem dX8_set_32 : decode cX8_set 32 = .ok (.ifCond .ne 6, 3) := by decide +kernel
theorem dX8_set_35 : decode cX8_set 35 = .ok (.bipush (-2), 2) := by decide +kernel
theorem dX8_set_37 : decode cX8_set 37 = .ok (.ireturn, 1) := by decide +kernel
theorem dX8_set_38 : decode cX8_set 38 = .ok (.aload_n 0, 1) := by decide +kernel
theorem dX8_set_39 : decode cX8_set 39 = .ok (.getfield 34, 3) := by decide +kernel
theorem dX8_set_42 : decode cX8_set 42 = .ok (.iload_n 1, 1) := by decide +kernel
theorem dX8_set_43 : decode cX8_set 43 = .ok (.iaload, 1) := by decide +kernel
theorem dX8_set_44 : decode cX8_set 44 = .ok (.istore_n 3, 1) := by decide +kernel
theorem dX8_set_45 : decode cX8_set 45 = .ok (.aload_n 0, 1) := by decide +kernel
theorem dX8_set_46 : decode cX8_set 46 = .ok (.getfield 34, 3) := by decide +kernel
theorem dX8_set_49 : decode cX8_set 49 = .ok (.iload_n 1, 1) := by decide +kernel
theorem dX8_set_50 : decode cX8_set 50 = .ok (.iload_n 2, 1) := by decide +kernel
theorem dX8_set_51 : decode cX8_set 51 = .ok (.iastore, 1) := by decide +kernel
theorem dX8_set_52 : decode cX8_set 52 = .ok (.iload_n 3, 1) := by decide +kernel
theorem dX8_set_53 : decode cX8_set 53 = .ok (.ireturn, 1) := by decide +kernel
theorem dX8_kindAt_0 : decode cX8_kindAt 0 = .ok (.aload_n 0, 1) := by decide +kernel
theorem dX8_kindAt_1 : decode cX8_kindAt 1 = .ok (.getfield 31, 3) := by decide +kernel
theorem dX8_kindAt_4 : decode cX8_kindAt 4 = .ok (.iconst 4, 1) := by decide +kernel
theorem dX8_kindAt_5 : decode cX8_kindAt 5 = .ok (.aload_n 0, 1) := by decide +kernel
theorem dX8_kindAt_6 : decode cX8_kindAt 6 = .ok (.getfield 37, 3) := by decide +kernel
theorem dX8_kindAt_9 : decode cX8_kindAt 9 = .ok (.iload_n 1, 1) := by decide +kernel
theorem dX8_kindAt_10 : decode cX8_kindAt 10 = .ok (.iaload, 1) := by decide +kernel
theorem dX8_kindAt_11 : decode cX8_kindAt 11 = .ok (.imul, 1) := by decide +kernel
theorem dX8_kindAt_12 : decode cX8_kindAt 12 = .ok (.iconst 3, 1) := by decide +kernel
theorem dX8_kindAt_13 : decode cX8_kindAt 13 = .ok (.iadd, 1) := by decide +kernel
theorem dX8_kindAt_14 : decode cX8_kindAt 14 = .ok (.iaload, 1) := by decide +kernel
theorem dX8_kindAt_15 : decode cX8_kindAt 15 = .ok (.ireturn, 1) := by decide +kernel
theorem dX8_sayAt_0 : decode cX8_sayAt 0 = .ok (.aload_n 0, 1) := by decide +kernel
theorem dX8_sayAt_1 : decode cX8_sayAt 1 = .ok (.getfield 31, 3) := by decide +kernel
theorem dX8_sayAt_4 : decode cX8_sayAt 4 = .ok (.iconst 4, 1) := by decide +kernel
theorem dX8_sayAt_5 : decode cX8_sayAt 5 = .ok (.aload_n 0, 1) := by decide +kernel
theorem dX8_sayAt_6 : decode cX8_sayAt 6 = .ok (.getfield 37, 3) := by decide +kernel
theorem dX8_sayAt_9 : decode cX8_sayAt 9 = .ok (.iload_n 1, 1) := by decide +kernel
theorem dX8_sayAt_10 : decode cX8_sayAt 10 = .ok (.iaload, 1) := by decide +kernel
theorem dX8_sayAt_11 : decode cX8_sayAt 11 = .ok (.imul, 1) := by decide +kernel
theorem dX8_sayAt_12 : decode cX8_sayAt 12 = .ok (.iconst 1, 1) := by decide +kernel
theorem dX8_sayAt_13 : decode cX8_sayAt 13 = .ok (.iadd, 1) := by decide +kernel
theorem dX8_sayAt_14 : decode cX8_sayAt 14 = .ok (.iaload, 1) := by decide +kernel
theorem dX8_sayAt_15 : decode cX8_sayAt 15 = .ok (.ireturn, 1) := by decide +kernel
theorem dX8_plain_0 : decode cX8_plain 0 = .ok (.aload_n 0, 1) := by decide +kernel
theorem dX8_plain_1 : decode cX8_plain 1 = .ok (.aload_n 0, 1) := by decide +kernel
theorem dX8_plain_2 : decode cX8_plain 2 = .ok (.getfield 28, 3) := by decide +kernel
theorem dX8_plain_5 : decode cX8_plain 5 = .ok (.iconst 0, 1) := by decide +kernel
theorem dX8_plain_6 : decode cX8_plain 6 = .ok (.iaload, 1) := by decide +kernel
theorem dX8_plain_7 : decode cX8_plain 7 = .ok (.putfield 128, 3) := by decide +kernel
theorem dX8_plain_10 : decode cX8_plain 10 = .ok (.iconst 0, 1) := by decide +kernel
theorem dX8_plain_11 : decode cX8_plain 11 = .ok (.istore_n 1, 1) := by decide +kernel
theorem dX8_plain_12 : decode cX8_plain 12 = .ok (.iload_n 1, 1) := by decide +kernel
theorem dX8_plain_13 : decode cX8_plain 13 = .ok (.aload_n 0, 1) := by decide +kernel
theorem dX8_plain_14 : decode cX8_plain 14 = .ok (.getfield 128, 3) := by decide +kernel
theorem dX8_plain_17 : decode cX8_plain 17 = .ok (.if_icmp .ge 16, 3) := by decide +kernel
theorem dX8_plain_20 : decode cX8_plain 20 = .ok (.aload_n 0, 1) := by decide +kernel
theorem dX8_plain_21 : decode cX8_plain 21 = .ok (.getfield 37, 3) := by decide +kernel
theorem dX8_plain_24 : decode cX8_plain 24 = .ok (.iload_n 1, 1) := by decide +kernel
theorem dX8_plain_25 : decode cX8_plain 25 = .ok (.iload_n 1, 1) := by decide +kernel
theorem dX8_plain_26 : decode cX8_plain 26 = .ok (.iastore, 1) := by decide +kernel
theorem dX8_plain_27 : decode cX8_plain 27 = .ok (.iinc 1 1, 3) := by decide +kernel
theorem dX8_plain_30 : decode cX8_plain 30 = .ok (.goto (-18), 3) := by decide +kernel
theorem dX8_plain_33 : decode cX8_plain 33 = .ok (.return_, 1) := by decide +kernel
theorem dX8_counts_0 : decode cX8_counts 0 = .ok (.iconst 0, 1) := by decide +kernel
theorem dX8_counts_1 : decode cX8_counts 1 = .ok (.istore_n 1, 1) := by decide +kernel
theorem dX8_counts_2 : decode cX8_counts 2 = .ok (.iload_n 1, 1) := by decide +kernel
theorem dX8_counts_3 : decode cX8_counts 3 = .ok (.aload_n 0, 1) := by decide +kernel
theorem dX8_counts_4 : decode cX8_counts 4 = .ok (.getfield 128, 3) := by decide +kernel
theorem dX8_counts_7 : decode cX8_counts 7 = .ok (.if_icmp .ge 126, 3) := by decide +kernel
theorem dX8_counts_10 : decode cX8_counts 10 = .ok (.iconst 0, 1) := by decide +kernel
theorem dX8_counts_11 : decode cX8_counts 11 = .ok (.istore_n 2, 1) := by decide +kernel
theorem dX8_counts_12 : decode cX8_counts 12 = .ok (.iconst 0, 1) := by decide +kernel
theorem dX8_counts_13 : decode cX8_counts 13 = .ok (.istore_n 3, 1) := by decide +kernel
theorem dX8_counts_14 : decode cX8_counts 14 = .ok (.iload_n 3, 1) := by decide +kernel
theorem dX8_counts_15 : decode cX8_counts 15 = .ok (.iload_n 1, 1) := by decide +kernel
theorem dX8_counts_16 : decode cX8_counts 16 = .ok (.if_icmp .ge 30, 3) := by decide +kernel
theorem dX8_counts_19 : decode cX8_counts 19 = .ok (.iload_n 2, 1) := by decide +kernel
theorem dX8_counts_20 : decode cX8_counts 20 = .ok (.aload_n 0, 1) := by decide +kernel
theorem dX8_counts_21 : decode cX8_counts 21 = .ok (.iload_n 3, 1) := by decide +kernel
theorem dX8_counts_22 : decode cX8_counts 22 = .ok (.invokevirtual 131, 3) := by decide +kernel
theorem dX8_counts_25 : decode cX8_counts 25 = .ok (.aload_n 0, 1) := by decide +kernel
theorem dX8_counts_26 : decode cX8_counts 26 = .ok (.iload_n 1, 1) := by decide +kernel
theorem dX8_counts_27 : decode cX8_counts 27 = .ok (.invokevirtual 131, 3) := by decide +kernel
theorem dX8_counts_30 : decode cX8_counts 30 = .ok (.if_icmp .ne 7, 3) := by decide +kernel
theorem dX8_counts_33 : decode cX8_counts 33 = .ok (.iconst 1, 1) := by decide +kernel
theorem dX8_counts_34 : decode cX8_counts 34 = .ok (.goto 4, 3) := by decide +kernel
theorem dX8_counts_37 : decode cX8_counts 37 = .ok (.iconst 0, 1) := by decide +kernel
theorem dX8_counts_38 : decode cX8_counts 38 = .ok (.iadd, 1) := by decide +kernel
theorem dX8_counts_39 : decode cX8_counts 39 = .ok (.istore_n 2, 1) := by decide +kernel
theorem dX8_counts_40 : decode cX8_counts 40 = .ok (.iinc 3 1, 3) := by decide +kernel
theorem dX8_counts_43 : decode cX8_counts 43 = .ok (.goto (-29), 3) := by decide +kernel
theorem dX8_counts_46 : decode cX8_counts 46 = .ok (.aload_n 0, 1) := by decide +kernel
theorem dX8_counts_47 : decode cX8_counts 47 = .ok (.iload_n 1, 1) := by decide +kernel
theorem dX8_counts_48 : decode cX8_counts 48 = .ok (.invokevirtual 131, 3) := by decide +kernel
theorem dX8_counts_51 : decode cX8_counts 51 = .ok (.iconst 1, 1) := by decide +kernel
theorem dX8_counts_52 : decode cX8_counts 52 = .ok (.if_icmp .ne 11, 3) := by decide +kernel
theorem dX8_counts_55 : decode cX8_counts 55 = .ok (.iload_n 2, 1) := by decide +kernel
theorem dX8_counts_56 : decode cX8_counts 56 = .ok (.ifCond .le 7, 3) := by decide +kernel
theorem dX8_counts_59 : decode cX8_counts 59 = .ok (.iconst 1, 1) := by decide +kernel
theorem dX8_counts_60 : decode cX8_counts 60 = .ok (.goto 4, 3) := by decide +kernel
theorem dX8_counts_63 : decode cX8_counts 63 = .ok (.iconst 0, 1) := by decide +kernel
theorem dX8_counts_64 : decode cX8_counts 64 = .ok (.istore_n 3, 1) := by decide +kernel
theorem dX8_counts_65 : decode cX8_counts 65 = .ok (.aload_n 0, 1) := by decide +kernel
theorem dX8_counts_66 : decode cX8_counts 66 = .ok (.getfield 40, 3) := by decide +kernel
theorem dX8_counts_69 : decode cX8_counts 69 = .ok (.iload_n 1, 1) := by decide +kernel
theorem dX8_counts_70 : decode cX8_counts 70 = .ok (.iload_n 3, 1) := by decide +kernel
theorem dX8_counts_71 : decode cX8_counts 71 = .ok (.ifCond .eq 7, 3) := by decide +kernel
theorem dX8_counts_74 : decode cX8_counts 74 = .ok (.iconst 0, 1) := by decide +kernel
theorem dX8_counts_75 : decode cX8_counts 75 = .ok (.goto 16, 3) := by decide +kernel
theorem dX8_counts_78 : decode cX8_counts 78 = .ok (.aload_n 0, 1) := by decide +kernel
theorem dX8_counts_79 : decode cX8_counts 79 = .ok (.getfield 31, 3) := by decide +kernel
theorem dX8_counts_82 : decode cX8_counts 82 = .ok (.iconst 4, 1) := by decide +kernel
theorem dX8_counts_83 : decode cX8_counts 83 = .ok (.aload_n 0, 1) := by decide +kernel
theorem dX8_counts_84 : decode cX8_counts 84 = .ok (.getfield 37, 3) := by decide +kernel
theorem dX8_counts_87 : decode cX8_counts 87 = .ok (.iload_n 1, 1) := by decide +kernel
theorem dX8_counts_88 : decode cX8_counts 88 = .ok (.iaload, 1) := by decide +kernel
theorem dX8_counts_89 : decode cX8_counts 89 = .ok (.imul, 1) := by decide +kernel
theorem dX8_counts_90 : decode cX8_counts 90 = .ok (.iaload, 1) := by decide +kernel
theorem dX8_counts_91 : decode cX8_counts 91 = .ok (.iastore, 1) := by decide +kernel
theorem dX8_counts_92 : decode cX8_counts 92 = .ok (.aload_n 0, 1) := by decide +kernel
theorem dX8_counts_93 : decode cX8_counts 93 = .ok (.getfield 43, 3) := by decide +kernel
theorem dX8_counts_96 : decode cX8_counts 96 = .ok (.iload_n 1, 1) := by decide +kernel
theorem dX8_counts_97 : decode cX8_counts 97 = .ok (.iload_n 3, 1) := by decide +kernel
theorem dX8_counts_98 : decode cX8_counts 98 = .ok (.ifCond .eq 7, 3) := by decide +kernel
theorem dX8_counts_101 : decode cX8_counts 101 = .ok (.iconst 0, 1) := by decide +kernel
theorem dX8_counts_102 : decode cX8_counts 102 = .ok (.goto 24, 3) := by decide +kernel
theorem dX8_counts_105 : decode cX8_counts 105 = .ok (.aload_n 0, 1) := by decide +kernel
theorem dX8_counts_106 : decode cX8_counts 106 = .ok (.getfield 31, 3) := by decide +kernel
theorem dX8_counts_109 : decode cX8_counts 109 = .ok (.iconst 4, 1) := by decide +kernel
theorem dX8_counts_110 : decode cX8_counts 110 = .ok (.aload_n 0, 1) := by decide +kernel
theorem dX8_counts_111 : decode cX8_counts 111 = .ok (.getfield 37, 3) := by decide +kernel
theorem dX8_counts_114 : decode cX8_counts 114 = .ok (.iload_n 1, 1) := by decide +kernel
theorem dX8_counts_115 : decode cX8_counts 115 = .ok (.iaload, 1) := by decide +kernel
theorem dX8_counts_116 : decode cX8_counts 116 = .ok (.imul, 1) := by decide +kernel
theorem dX8_counts_117 : decode cX8_counts 117 = .ok (.iconst 2, 1) := by decide +kernel
theorem dX8_counts_118 : decode cX8_counts 118 = .ok (.iadd, 1) := by decide +kernel
theorem dX8_counts_119 : decode cX8_counts 119 = .ok (.iaload, 1) := by decide +kernel
theorem dX8_counts_120 : decode cX8_counts 120 = .ok (.iload_n 2, 1) := by decide +kernel
theorem dX8_counts_121 : decode cX8_counts 121 = .ok (.isub, 1) := by decide +kernel
theorem dX8_counts_122 : decode cX8_counts 122 = .ok (.iconst 0, 1) := by decide +kernel
theorem dX8_counts_123 : decode cX8_counts 123 = .ok (.invokestatic 134, 3) := by decide +kernel
theorem dX8_counts_126 : decode cX8_counts 126 = .ok (.iastore, 1) := by decide +kernel
theorem dX8_counts_127 : decode cX8_counts 127 = .ok (.iinc 1 1, 3) := by decide +kernel
theorem dX8_counts_130 : decode cX8_counts 130 = .ok (.goto (-128), 3) := by decide +kernel
theorem dX8_counts_133 : decode cX8_counts 133 = .ok (.return_, 1) := by decide +kernel
theorem dX8_says_0 : decode cX8_says 0 = .ok (.aload_n 0, 1) := by decide +kernel
theorem dX8_says_1 : decode cX8_says 1 = .ok (.invokevirtual 137, 3) := by decide +kernel
theorem dX8_says_4 : decode cX8_says 4 = .ok (.iconst 0, 1) := by decide +kernel
theorem dX8_says_5 : decode cX8_says 5 = .ok (.istore 4, 2) := by decide +kernel
theorem dX8_says_7 : decode cX8_says 7 = .ok (.iload 4, 2) := by decide +kernel
theorem dX8_says_9 : decode cX8_says 9 = .ok (.aload_n 0, 1) := by decide +kernel
theorem dX8_says_10 : decode cX8_says 10 = .ok (.getfield 128, 3) := by decide +kernel
theorem dX8_says_13 : decode cX8_says 13 = .ok (.if_icmp .ge 49, 3) := by decide +kernel
theorem dX8_says_16 : decode cX8_says 16 = .ok (.aload_n 0, 1) := by decide +kernel
theorem dX8_says_17 : decode cX8_says 17 = .ok (.getfield 46, 3) := by decide +kernel
theorem dX8_says_20 : decode cX8_says 20 = .ok (.iload 4, 2) := by decide +kernel
theorem dX8_says_22 : decode cX8_says 22 = .ok (.iconst (-1), 1) := by decide +kernel
theorem dX8_says_23 : decode cX8_says 23 = .ok (.iastore, 1) := by decide +kernel
theorem dX8_says_24 : decode cX8_says 24 = .ok (.aload_n 0, 1) := by decide +kernel
theorem dX8_says_25 : decode cX8_says 25 = .ok (.getfield 49, 3) := by decide +kernel
theorem dX8_says_28 : decode cX8_says 28 = .ok (.iload 4, 2) := by decide +kernel
theorem dX8_says_30 : decode cX8_says 30 = .ok (.iconst (-1), 1) := by decide +kernel
theorem dX8_says_31 : decode cX8_says 31 = .ok (.iastore, 1) := by decide +kernel
theorem dX8_says_32 : decode cX8_says 32 = .ok (.aload_n 0, 1) := by decide +kernel
theorem dX8_says_33 : decode cX8_says 33 = .ok (.getfield 52, 3) := by decide +kernel
theorem dX8_says_36 : decode cX8_says 36 = .ok (.iload 4, 2) := by decide +kernel
theorem dX8_says_38 : decode cX8_says 38 = .ok (.iconst (-1), 1) := by decide +kernel
theorem dX8_says_39 : decode cX8_says 39 = .ok (.iastore, 1) := by decide +kernel
theorem dX8_says_40 : decode cX8_says 40 = .ok (.aload_n 0, 1) := by decide +kernel
theorem dX8_says_41 : decode cX8_says 41 = .ok (.getfield 55, 3) := by decide +kernel
theorem dX8_says_44 : decode cX8_says 44 = .ok (.iload 4, 2) := by decide +kernel
theorem dX8_says_46 : decode cX8_says 46 = .ok (.iconst (-1), 1) := by decide +kernel
theorem dX8_says_47 : decode cX8_says 47 = .ok (.iastore, 1) := by decide +kernel
theorem dX8_says_48 : decode cX8_says 48 = .ok (.aload_n 0, 1) := by decide +kernel
theorem dX8_says_49 : decode cX8_says 49 = .ok (.getfield 58, 3) := by decide +kernel
theorem dX8_says_52 : decode cX8_says 52 = .ok (.iload 4, 2) := by decide +kernel
theorem dX8_says_54 : decode cX8_says 54 = .ok (.iconst (-1), 1) := by decide +kernel
theorem dX8_says_55 : decode cX8_says 55 = .ok (.iastore, 1) := by decide +kernel
theorem dX8_says_56 : decode cX8_says 56 = .ok (.iinc 4 1, 3) := by decide +kernel
theorem dX8_says_59 : decode cX8_says 59 = .ok (.goto (-52), 3) := by decide +kernel
theorem dX8_says_62 : decode cX8_says 62 = .ok (.iconst 0, 1) := by decide +kernel
theorem dX8_says_63 : decode cX8_says 63 = .ok (.istore 4, 2) := by decide +kernel
theorem dX8_says_65 : decode cX8_says 65 = .ok (.iload_n 1, 1) := by decide +kernel
theorem dX8_says_66 : decode cX8_says 66 = .ok (.istore 5, 2) := by decide +kernel
theorem dX8_says_68 : decode cX8_says 68 = .ok (.iconst 0, 1) := by decide +kernel
theorem dX8_says_69 : decode cX8_says 69 = .ok (.istore 6, 2) := by decide +kernel
theorem dX8_says_71 : decode cX8_says 71 = .ok (.aload_n 0, 1) := by decide +kernel
theorem dX8_says_72 : decode cX8_says 72 = .ok (.getfield 34, 3) := by decide +kernel
theorem dX8_says_75 : decode cX8_says 75 = .ok (.iconst 1, 1) := by decide +kernel
theorem dX8_says_76 : decode cX8_says 76 = .ok (.iaload, 1) := by decide +kernel
theorem dX8_says_77 : decode cX8_says 77 = .ok (.istore 7, 2) := by decide +kernel
theorem dX8_says_79 : decode cX8_says 79 = .ok (.iconst 0, 1) := by decide +kernel
theorem dX8_says_80 : decode cX8_says 80 = .ok (.istore 8, 2) := by decide +kernel
theorem dX8_says_82 : decode cX8_says 82 = .ok (.aload_n 0, 1) := by decide +kernel
theorem dX8_says_83 : decode cX8_says 83 = .ok (.iconst 0, 1) := by decide +kernel
theorem dX8_says_84 : decode cX8_says 84 = .ok (.putfield 140, 3) := by decide +kernel
theorem dX8_says_87 : decode cX8_says 87 = .ok (.aload_n 0, 1) := by decide +kernel
theorem dX8_says_88 : decode cX8_says 88 = .ok (.iconst 0, 1) := by decide +kernel
theorem dX8_says_89 : decode cX8_says 89 = .ok (.putfield 143, 3) := by decide +kernel
theorem dX8_says_92 : decode cX8_says 92 = .ok (.aload_n 0, 1) := by decide +kernel
theorem dX8_says_93 : decode cX8_says 93 = .ok (.iconst 0, 1) := by decide +kernel
theorem dX8_says_94 : decode cX8_says 94 = .ok (.putfield 146, 3) := by decide +kernel
theorem dX8_says_97 : decode cX8_says 97 = .ok (.aload_n 0, 1) := by decide +kernel
theorem dX8_says_98 : decode cX8_says 98 = .ok (.iconst 0, 1) := by decide +kernel
theorem dX8_says_99 : decode cX8_says 99 = .ok (.putfield 149, 3) := by decide +kernel
theorem dX8_says_102 : decode cX8_says 102 = .ok (.iconst 1, 1) := by decide +kernel
theorem dX8_says_103 : decode cX8_says 103 = .ok (.istore 9, 2) := by decide +kernel
theorem dX8_says_105 : decode cX8_says 105 = .ok (.iconst 0, 1) := by decide +kernel
theorem dX8_says_106 : decode cX8_says 106 = .ok (.istore 10, 2) := by decide +kernel
theorem dX8_says_108 : decode cX8_says 108 = .ok (.iload 10, 2) := by decide +kernel
theorem dX8_says_110 : decode cX8_says 110 = .ok (.aload_n 0, 1) := by decide +kernel
theorem dX8_says_111 : decode cX8_says 111 = .ok (.getfield 128, 3) := by decide +kernel
theorem dX8_says_114 : decode cX8_says 114 = .ok (.if_icmp .ge 350, 3) := by decide +kernel
theorem dX8_says_117 : decode cX8_says 117 = .ok (.iload 9, 2) := by decide +kernel
theorem dX8_says_119 : decode cX8_says 119 = .ok (.ifCond .eq 345, 3) := by decide +kernel
theorem dX8_says_122 : decode cX8_says 122 = .ok (.iload 6, 2) := by decide +kernel
theorem dX8_says_124 : decode cX8_says 124 = .ok (.aload_n 0, 1) := by decide +kernel
theorem dX8_says_125 : decode cX8_says 125 = .ok (.getfield 40, 3) := by decide +kernel
theorem dX8_says_128 : decode cX8_says 128 = .ok (.iload 10, 2) := by decide +kernel
theorem dX8_says_130 : decode cX8_says 130 = .ok (.iaload, 1) := by decide +kernel
theorem dX8_says_131 : decode cX8_says 131 = .ok (.iadd, 1) := by decide +kernel
theorem dX8_says_132 : decode cX8_says 132 = .ok (.istore 6, 2) := by decide +kernel
theorem dX8_says_134 : decode cX8_says 134 = .ok (.iload 6, 2) := by decide +kernel
theorem dX8_says_136 : decode cX8_says 136 = .ok (.iload 5, 2) := by decide +kernel
theorem dX8_says_138 : decode cX8_says 138 = .ok (.isub, 1) := by decide +kernel
theorem dX8_says_139 : decode cX8_says 139 = .ok (.iconst 0, 1) := by decide +kernel
theorem dX8_says_140 : decode cX8_says 140 = .ok (.invokestatic 134, 3) := by decide +kernel
theorem dX8_says_143 : decode cX8_says 143 = .ok (.istore 11, 2) := by decide +kernel
theorem dX8_says_145 : decode cX8_says 145 = .ok (.iload_n 2, 1) := by decide +kernel
theorem dX8_says_146 : decode cX8_says 146 = .ok (.ifCond .eq 8, 3) := by decide +kernel
theorem dX8_says_149 : decode cX8_says 149 = .ok (.iload 11, 2) := by decide +kernel
theorem dX8_says_151 : decode cX8_says 151 = .ok (.ifCond .ne 7, 3) := by decide +kernel
theorem dX8_says_154 : decode cX8_says 154 = .ok (.iconst 1, 1) := by decide +kernel
theorem dX8_says_155 : decode cX8_says 155 = .ok (.goto 4, 3) := by decide +kernel
theorem dX8_says_158 : decode cX8_says 158 = .ok (.iconst 0, 1) := by decide +kernel
theorem dX8_says_159 : decode cX8_says 159 = .ok (.istore 9, 2) := by decide +kernel
theorem dX8_says_161 : decode cX8_says 161 = .ok (.iload 9, 2) := by decide +kernel
theorem dX8_says_163 : decode cX8_says 163 = .ok (.ifCond .eq 295, 3) := by decide +kernel
theorem dX8_says_166 : decode cX8_says 166 = .ok (.iload 5, 2) := by decide +kernel
theorem dX8_says_168 : decode cX8_says 168 = .ok (.iload 11, 2) := by decide +kernel
theorem dX8_says_170 : decode cX8_says 170 = .ok (.iadd, 1) := by decide +kernel
theorem dX8_says_171 : decode cX8_says 171 = .ok (.istore 5, 2) := by decide +kernel
theorem dX8_says_173 : decode cX8_says 173 = .ok (.aload_n 0, 1) := by decide +kernel
theorem dX8_says_174 : decode cX8_says 174 = .ok (.getfield 58, 3) := by decide +kernel
theorem dX8_says_177 : decode cX8_says 177 = .ok (.iload 10, 2) := by decide +kernel
theorem dX8_says_179 : decode cX8_says 179 = .ok (.iload 11, 2) := by decide +kernel
theorem dX8_says_181 : decode cX8_says 181 = .ok (.iastore, 1) := by decide +kernel
theorem dX8_says_182 : decode cX8_says 182 = .ok (.aload_n 0, 1) := by decide +kernel
theorem dX8_says_183 : decode cX8_says 183 = .ok (.dup, 1) := by decide +kernel
theorem dX8_says_184 : decode cX8_says 184 = .ok (.getfield 143, 3) := by decide +kernel
theorem dX8_says_187 : decode cX8_says 187 = .ok (.iload 11, 2) := by decide +kernel
theorem dX8_says_189 : decode cX8_says 189 = .ok (.iadd, 1) := by decide +kernel
theorem dX8_says_190 : decode cX8_says 190 = .ok (.putfield 143, 3) := by decide +kernel
theorem dX8_says_193 : decode cX8_says 193 = .ok (.aload_n 0, 1) := by decide +kernel
theorem dX8_says_194 : decode cX8_says 194 = .ok (.getfield 46, 3) := by decide +kernel
theorem dX8_says_197 : decode cX8_says 197 = .ok (.iload 10, 2) := by decide +kernel
theorem dX8_says_199 : decode cX8_says 199 = .ok (.iload 4, 2) := by decide +kernel
theorem dX8_says_201 : decode cX8_says 201 = .ok (.iload 11, 2) := by decide +kernel
theorem dX8_says_203 : decode cX8_says 203 = .ok (.iadd, 1) := by decide +kernel
theorem dX8_says_204 : decode cX8_says 204 = .ok (.iastore, 1) := by decide +kernel
theorem dX8_says_205 : decode cX8_says 205 = .ok (.aload_n 0, 1) := by decide +kernel
theorem dX8_says_206 : decode cX8_says 206 = .ok (.getfield 49, 3) := by decide +kernel
theorem dX8_says_209 : decode cX8_says 209 = .ok (.iload 10, 2) := by decide +kernel
theorem dX8_says_211 : decode cX8_says 211 = .ok (.aload_n 0, 1) := by decide +kernel
theorem dX8_says_212 : decode cX8_says 212 = .ok (.getfield 46, 3) := by decide +kernel
theorem dX8_says_215 : decode cX8_says 215 = .ok (.iload 10, 2) := by decide +kernel
theorem dX8_says_217 : decode cX8_says 217 = .ok (.iaload, 1) := by decide +kernel
theorem dX8_says_218 : decode cX8_says 218 = .ok (.aload_n 0, 1) := by decide +kernel
theorem dX8_says_219 : decode cX8_says 219 = .ok (.iload 10, 2) := by decide +kernel
theorem dX8_says_221 : decode cX8_says 221 = .ok (.invokevirtual 152, 3) := by decide +kernel
theorem dX8_says_224 : decode cX8_says 224 = .ok (.iadd, 1) := by decide +kernel
theorem dX8_says_225 : decode cX8_says 225 = .ok (.iastore, 1) := by decide +kernel
theorem dX8_says_226 : decode cX8_says 226 = .ok (.aload_n 0, 1) := by decide +kernel
theorem dX8_says_227 : decode cX8_says 227 = .ok (.getfield 52, 3) := by decide +kernel
theorem dX8_says_230 : decode cX8_says 230 = .ok (.iload 10, 2) := by decide +kernel
theorem dX8_says_232 : decode cX8_says 232 = .ok (.aload_n 0, 1) := by decide +kernel
theorem dX8_says_233 : decode cX8_says 233 = .ok (.getfield 49, 3) := by decide +kernel
theorem dX8_says_236 : decode cX8_says 236 = .ok (.iload 10, 2) := by decide +kernel
theorem dX8_says_238 : decode cX8_says 238 = .ok (.iaload, 1) := by decide +kernel
theorem dX8_says_239 : decode cX8_says 239 = .ok (.aload_n 0, 1) := by decide +kernel
theorem dX8_says_240 : decode cX8_says 240 = .ok (.getfield 43, 3) := by decide +kernel
theorem dX8_says_243 : decode cX8_says 243 = .ok (.iload 10, 2) := by decide +kernel
theorem dX8_says_245 : decode cX8_says 245 = .ok (.iaload, 1) := by decide +kernel
theorem dX8_says_246 : decode cX8_says 246 = .ok (.iadd, 1) := by decide +kernel
theorem dX8_says_247 : decode cX8_says 247 = .ok (.iastore, 1) := by decide +kernel
theorem dX8_says_248 : decode cX8_says 248 = .ok (.aload_n 0, 1) := by decide +kernel
theorem dX8_says_249 : decode cX8_says 249 = .ok (.iload 10, 2) := by decide +kernel
theorem dX8_says_251 : decode cX8_says 251 = .ok (.invokevirtual 152, 3) := by decide +kernel
theorem dX8_says_254 : decode cX8_says 254 = .ok (.aload_n 0, 1) := by decide +kernel
theorem dX8_says_255 : decode cX8_says 255 = .ok (.iload 10, 2) := by decide +kernel
theorem dX8_says_257 : decode cX8_says 257 = .ok (.invokevirtual 131, 3) := by decide +kernel
theorem dX8_says_260 : decode cX8_says 260 = .ok (.iconst 3, 1) := by decide +kernel
theorem dX8_says_261 : decode cX8_says 261 = .ok (.if_icmp .ne 7, 3) := by decide +kernel
theorem dX8_says_264 : decode cX8_says 264 = .ok (.iconst 2, 1) := by decide +kernel
theorem dX8_says_265 : decode cX8_says 265 = .ok (.goto 4, 3) := by decide +kernel
theorem dX8_says_268 : decode cX8_says 268 = .ok (.iconst 0, 1) := by decide +kernel
theorem dX8_says_269 : decode cX8_says 269 = .ok (.iadd, 1) := by decide +kernel
theorem dX8_says_270 : decode cX8_says 270 = .ok (.istore 12, 2) := by decide +kernel
theorem dX8_says_272 : decode cX8_says 272 = .ok (.iload 8, 2) := by decide +kernel
theorem dX8_says_274 : decode cX8_says 274 = .ok (.ifCond .eq 14, 3) := by decide +kernel
theorem dX8_says_277 : decode cX8_says 277 = .ok (.iload 7, 2) := by decide +kernel
theorem dX8_says_279 : decode cX8_says 279 = .ok (.iload 12, 2) := by decide +kernel
theorem dX8_says_281 : decode cX8_says 281 = .ok (.if_icmp .ge 7, 3) := by decide +kernel
theorem dX8_says_284 : decode cX8_says 284 = .ok (.iconst 1, 1) := by decide +kernel
theorem dX8_says_285 : decode cX8_says 285 = .ok (.goto 4, 3) := by decide +kernel
theorem dX8_says_288 : decode cX8_says 288 = .ok (.iconst 0, 1) := by decide +kernel
theorem dX8_says_289 : decode cX8_says 289 = .ok (.istore 13, 2) := by decide +kernel
theorem dX8_says_291 : decode cX8_says 291 = .ok (.iload 13, 2) := by decide +kernel
theorem dX8_says_293 : decode cX8_says 293 = .ok (.ifCond .eq 11, 3) := by decide +kernel
theorem dX8_says_296 : decode cX8_says 296 = .ok (.aload_n 0, 1) := by decide +kernel
theorem dX8_says_297 : decode cX8_says 297 = .ok (.getfield 149, 3) := by decide +kernel
theorem dX8_says_300 : decode cX8_says 300 = .ok (.iload_n 3, 1) := by decide +kernel
theorem dX8_says_301 : decode cX8_says 301 = .ok (.if_icmp .ge 7, 3) := by decide +kernel
theorem dX8_says_304 : decode cX8_says 304 = .ok (.iconst 1, 1) := by decide +kernel
theorem dX8_says_305 : decode cX8_says 305 = .ok (.goto 4, 3) := by decide +kernel
theorem dX8_says_308 : decode cX8_says 308 = .ok (.iconst 0, 1) := by decide +kernel
theorem dX8_says_309 : decode cX8_says 309 = .ok (.istore 9, 2) := by decide +kernel
theorem dX8_says_311 : decode cX8_says 311 = .ok (.iload 9, 2) := by decide +kernel
theorem dX8_says_313 : decode cX8_says 313 = .ok (.ifCond .eq 145, 3) := by decide +kernel
theorem dX8_says_316 : decode cX8_says 316 = .ok (.aload_n 0, 1) := by decide +kernel
theorem dX8_says_317 : decode cX8_says 317 = .ok (.dup, 1) := by decide +kernel
theorem dX8_says_318 : decode cX8_says 318 = .ok (.getfield 149, 3) := by decide +kernel
theorem dX8_says_321 : decode cX8_says 321 = .ok (.iload 13, 2) := by decide +kernel
theorem dX8_says_323 : decode cX8_says 323 = .ok (.ifCond .eq 7, 3) := by decide +kernel
theorem dX8_says_326 : decode cX8_says 326 = .ok (.iconst 1, 1) := by decide +kernel
theorem dX8_says_327 : decode cX8_says 327 = .ok (.goto 4, 3) := by decide +kernel
theorem dX8_says_330 : decode cX8_says 330 = .ok (.iconst 0, 1) := by decide +kernel
theorem dX8_says_331 : decode cX8_says 331 = .ok (.iadd, 1) := by decide +kernel
theorem dX8_says_332 : decode cX8_says 332 = .ok (.putfield 149, 3) := by decide +kernel
theorem dX8_says_335 : decode cX8_says 335 = .ok (.iload 13, 2) := by decide +kernel
theorem dX8_says_337 : decode cX8_says 337 = .ok (.ifCond .eq 12, 3) := by decide +kernel
theorem dX8_says_340 : decode cX8_says 340 = .ok (.aload_n 0, 1) := by decide +kernel
theorem dX8_says_341 : decode cX8_says 341 = .ok (.getfield 34, 3) := by decide +kernel
theorem dX8_says_344 : decode cX8_says 344 = .ok (.iconst 1, 1) := by decide +kernel
theorem dX8_says_345 : decode cX8_says 345 = .ok (.iaload, 1) := by decide +kernel
theorem dX8_says_346 : decode cX8_says 346 = .ok (.goto 5, 3) := by decide +kernel
theorem dX8_says_349 : decode cX8_says 349 = .ok (.iload 7, 2) := by decide +kernel
theorem dX8_says_351 : decode cX8_says 351 = .ok (.iload 12, 2) := by decide +kernel
theorem dX8_says_353 : decode cX8_says 353 = .ok (.isub, 1) := by decide +kernel
theorem dX8_says_354 : decode cX8_says 354 = .ok (.istore 7, 2) := by decide +kernel
theorem dX8_says_356 : decode cX8_says 356 = .ok (.iconst 1, 1) := by decide +kernel
theorem dX8_says_357 : decode cX8_says 357 = .ok (.istore 8, 2) := by decide +kernel
theorem dX8_says_359 : decode cX8_says 359 = .ok (.aload_n 0, 1) := by decide +kernel
theorem dX8_says_360 : decode cX8_says 360 = .ok (.getfield 55, 3) := by decide +kernel
theorem dX8_says_363 : decode cX8_says 363 = .ok (.iload 10, 2) := by decide +kernel
theorem dX8_says_365 : decode cX8_says 365 = .ok (.aload_n 0, 1) := by decide +kernel
theorem dX8_says_366 : decode cX8_says 366 = .ok (.getfield 52, 3) := by decide +kernel
theorem dX8_says_369 : decode cX8_says 369 = .ok (.iload 10, 2) := by decide +kernel
theorem dX8_says_371 : decode cX8_says 371 = .ok (.iaload, 1) := by decide +kernel
theorem dX8_says_372 : decode cX8_says 372 = .ok (.iload 13, 2) := by decide +kernel
theorem dX8_says_374 : decode cX8_says 374 = .ok (.ifCond .eq 12, 3) := by decide +kernel
theorem dX8_says_377 : decode cX8_says 377 = .ok (.aload_n 0, 1) := by decide +kernel
theorem dX8_says_378 : decode cX8_says 378 = .ok (.getfield 34, 3) := by decide +kernel
theorem dX8_says_381 : decode cX8_says 381 = .ok (.iconst 2, 1) := by decide +kernel
theorem dX8_says_382 : decode cX8_says 382 = .ok (.iaload, 1) := by decide +kernel
theorem dX8_says_383 : decode cX8_says 383 = .ok (.goto 4, 3) := by decide +kernel
theorem dX8_says_386 : decode cX8_says 386 = .ok (.iconst 0, 1) := by decide +kernel
theorem dX8_says_387 : decode cX8_says 387 = .ok (.iadd, 1) := by decide +kernel
theorem dX8_says_388 : decode cX8_says 388 = .ok (.iload 12, 2) := by decide +kernel
theorem dX8_says_390 : decode cX8_says 390 = .ok (.iadd, 1) := by decide +kernel
theorem dX8_says_391 : decode cX8_says 391 = .ok (.iastore, 1) := by decide +kernel
theorem dX8_says_392 : decode cX8_says 392 = .ok (.iload 5, 2) := by decide +kernel
theorem dX8_says_394 : decode cX8_says 394 = .ok (.aload_n 0, 1) := by decide +kernel
theorem dX8_says_395 : decode cX8_says 395 = .ok (.getfield 55, 3) := by decide +kernel
theorem dX8_says_398 : decode cX8_says 398 = .ok (.iload 10, 2) := by decide +kernel
theorem dX8_says_400 : decode cX8_says 400 = .ok (.iaload, 1) := by decide +kernel
theorem dX8_says_401 : decode cX8_says 401 = .ok (.aload_n 0, 1) := by decide +kernel
theorem dX8_says_402 : decode cX8_says 402 = .ok (.getfield 46, 3) := by decide +kernel
theorem dX8_says_405 : decode cX8_says 405 = .ok (.iload 10, 2) := by decide +kernel
theorem dX8_says_407 : decode cX8_says 407 = .ok (.iaload, 1) := by decide +kernel
theorem dX8_says_408 : decode cX8_says 408 = .ok (.isub, 1) := by decide +kernel
theorem dX8_says_409 : decode cX8_says 409 = .ok (.aload_n 0, 1) := by decide +kernel
theorem dX8_says_410 : decode cX8_says 410 = .ok (.iload 10, 2) := by decide +kernel
theorem dX8_says_412 : decode cX8_says 412 = .ok (.invokevirtual 131, 3) := by decide +kernel
theorem dX8_says_415 : decode cX8_says 415 = .ok (.iconst 2, 1) := by decide +kernel
theorem dX8_says_416 : decode cX8_says 416 = .ok (.if_icmp .ne 7, 3) := by decide +kernel
theorem dX8_says_419 : decode cX8_says 419 = .ok (.iconst 0, 1) := by decide +kernel
theorem dX8_says_420 : decode cX8_says 420 = .ok (.goto 9, 3) := by decide +kernel
theorem dX8_says_423 : decode cX8_says 423 = .ok (.aload_n 0, 1) := by decide +kernel
theorem dX8_says_424 : decode cX8_says 424 = .ok (.iload 10, 2) := by decide +kernel
theorem dX8_says_426 : decode cX8_says 426 = .ok (.invokevirtual 152, 3) := by decide +kernel
theorem dX8_says_429 : decode cX8_says 429 = .ok (.isub, 1) := by decide +kernel
theorem dX8_says_430 : decode cX8_says 430 = .ok (.iadd, 1) := by decide +kernel
theorem dX8_says_431 : decode cX8_says 431 = .ok (.istore 5, 2) := by decide +kernel
theorem dX8_says_433 : decode cX8_says 433 = .ok (.aload_n 0, 1) := by decide +kernel
theorem dX8_says_434 : decode cX8_says 434 = .ok (.getfield 55, 3) := by decide +kernel
theorem dX8_says_437 : decode cX8_says 437 = .ok (.iload 10, 2) := by decide +kernel
theorem dX8_says_439 : decode cX8_says 439 = .ok (.iaload, 1) := by decide +kernel
theorem dX8_says_440 : decode cX8_says 440 = .ok (.istore 4, 2) := by decide +kernel
theorem dX8_says_442 : decode cX8_says 442 = .ok (.aload_n 0, 1) := by decide +kernel
theorem dX8_says_443 : decode cX8_says 443 = .ok (.iload 4, 2) := by decide +kernel
theorem dX8_says_445 : decode cX8_says 445 = .ok (.putfield 140, 3) := by decide +kernel
theorem dX8_says_448 : decode cX8_says 448 = .ok (.aload_n 0, 1) := by decide +kernel
theorem dX8_says_449 : decode cX8_says 449 = .ok (.dup, 1) := by decide +kernel
theorem dX8_says_450 : decode cX8_says 450 = .ok (.getfield 146, 3) := by decide +kernel
theorem dX8_says_453 : decode cX8_says 453 = .ok (.iconst 1, 1) := by decide +kernel
theorem dX8_says_454 : decode cX8_says 454 = .ok (.iadd, 1) := by decide +kernel
theorem dX8_says_455 : decode cX8_says 455 = .ok (.putfield 146, 3) := by decide +kernel
theorem dX8_says_458 : decode cX8_says 458 = .ok (.iinc 10 1, 3) := by decide +kernel
theorem dX8_says_461 : decode cX8_says 461 = .ok (.goto (-353), 3) := by decide +kernel
theorem dX8_says_464 : decode cX8_says 464 = .ok (.return_, 1) := by decide +kernel
theorem dX8_find_0 : decode cX8_find 0 = .ok (.aload_n 0, 1) := by decide +kernel
theorem dX8_find_1 : decode cX8_find 1 = .ok (.iconst 0, 1) := by decide +kernel
theorem dX8_find_2 : decode cX8_find 2 = .ok (.invokevirtual 120, 3) := by decide +kernel
theorem dX8_find_5 : decode cX8_find 5 = .ok (.pop, 1) := by decide +kernel
theorem dX8_find_6 : decode cX8_find 6 = .ok (.aload_n 0, 1) := by decide +kernel
theorem dX8_find_7 : decode cX8_find 7 = .ok (.iconst 1, 1) := by decide +kernel
theorem dX8_find_8 : decode cX8_find 8 = .ok (.invokevirtual 120, 3) := by decide +kernel
theorem dX8_find_11 : decode cX8_find 11 = .ok (.pop, 1) := by decide +kernel
theorem dX8_find_12 : decode cX8_find 12 = .ok (.aload_n 0, 1) := by decide +kernel
theorem dX8_find_13 : decode cX8_find 13 = .ok (.invokevirtual 155, 3) := by decide +kernel
theorem dX8_find_16 : decode cX8_find 16 = .ok (.aload_n 0, 1) := by decide +kernel
theorem dX8_find_17 : decode cX8_find 17 = .ok (.aload_n 0, 1) := by decide +kernel
theorem dX8_find_18 : decode cX8_find 18 = .ok (.getfield 34, 3) := by decide +kernel
theorem dX8_find_21 : decode cX8_find 21 = .ok (.iconst 0, 1) := by decide +kernel
theorem dX8_find_22 : decode cX8_find 22 = .ok (.iaload, 1) := by decide +kernel
theorem dX8_find_23 : decode cX8_find 23 = .ok (.aload_n 0, 1) := by decide +kernel
theorem dX8_find_24 : decode cX8_find 24 = .ok (.getfield 34, 3) := by decide +kernel
theorem dX8_find_27 : decode cX8_find 27 = .ok (.iconst 4, 1) := by decide +kernel
theorem dX8_find_28 : decode cX8_find 28 = .ok (.iaload, 1) := by decide +kernel
theorem dX8_find_29 : decode cX8_find 29 = .ok (.aload_n 0, 1) := by decide +kernel
theorem dX8_find_30 : decode cX8_find 30 = .ok (.getfield 34, 3) := by decide +kernel
theorem dX8_find_33 : decode cX8_find 33 = .ok (.iconst 3, 1) := by decide +kernel
theorem dX8_find_34 : decode cX8_find 34 = .ok (.iaload, 1) := by decide +kernel
theorem dX8_find_35 : decode cX8_find 35 = .ok (.invokevirtual 158, 3) := by decide +kernel
theorem dX8_find_38 : decode cX8_find 38 = .ok (.return_, 1) := by decide +kernel
theorem dX8_verseOf_0 : decode cX8_verseOf 0 = .ok (.iload_n 2, 1) := by decide +kernel
theorem dX8_verseOf_1 : decode cX8_verseOf 1 = .ok (.iconst 4, 1) := by decide +kernel
theorem dX8_verseOf_2 : decode cX8_verseOf 2 = .ok (.if_icmp .ge 16, 3) := by decide +kernel
theorem dX8_verseOf_5 : decode cX8_verseOf 5 = .ok (.aload_n 0, 1) := by decide +kernel
theorem dX8_verseOf_6 : decode cX8_verseOf 6 = .ok (.getfield 31, 3) := by decide +kernel
theorem dX8_verseOf_9 : decode cX8_verseOf 9 = .ok (.iconst 4, 1) := by decide +kernel
theorem dX8_verseOf_10 : decode cX8_verseOf 10 = .ok (.iload_n 1, 1) := by decide +kernel
theorem dX8_verseOf_11 : decode cX8_verseOf 11 = .ok (.imul, 1) := by decide +kernel
theorem dX8_verseOf_12 : decode cX8_verseOf 12 = .ok (.iload_n 2, 1) := by decide +kernel
theorem dX8_verseOf_13 : decode cX8_verseOf 13 = .ok (.iadd, 1) := by decide +kernel
theorem dX8_verseOf_14 : decode cX8_verseOf 14 = .ok (.iaload, 1) := by decide +kernel
theorem dX8_verseOf_15 : decode cX8_verseOf 15 = .ok (.goto 23, 3) := by decide +kernel
theorem dX8_verseOf_18 : decode cX8_verseOf 18 = .ok (.iload_n 2, 1) := by decide +kernel
theorem dX8_verseOf_19 : decode cX8_verseOf 19 = .ok (.iconst 4, 1) := by decide +kernel
theorem dX8_verseOf_20 : decode cX8_verseOf 20 = .ok (.if_icmp .ne 12, 3) := by decide +kernel
theorem dX8_verseOf_23 : decode cX8_verseOf 23 = .ok (.aload_n 0, 1) := by decide +kernel
theorem dX8_verseOf_24 : decode cX8_verseOf 24 = .ok (.getfield 40, 3) := by decide +kernel
theorem dX8_verseOf_27 : decode cX8_verseOf 27 = .ok (.iload_n 1, 1) := by decide +kernel
theorem dX8_verseOf_28 : decode cX8_verseOf 28 = .ok (.iaload, 1) := by decide +kernel
theorem dX8_verseOf_29 : decode cX8_verseOf 29 = .ok (.goto 9, 3) := by decide +kernel
theorem dX8_verseOf_32 : decode cX8_verseOf 32 = .ok (.aload_n 0, 1) := by decide +kernel
theorem dX8_verseOf_33 : decode cX8_verseOf 33 = .ok (.getfield 43, 3) := by decide +kernel
theorem dX8_verseOf_36 : decode cX8_verseOf 36 = .ok (.iload_n 1, 1) := by decide +kernel
theorem dX8_verseOf_37 : decode cX8_verseOf 37 = .ok (.iaload, 1) := by decide +kernel
theorem dX8_verseOf_38 : decode cX8_verseOf 38 = .ok (.ireturn, 1) := by decide +kernel
theorem dX8_isVerse_0 : decode cX8_isVerse 0 = .ok (.iload_n 1, 1) := by decide +kernel
theorem dX8_isVerse_1 : decode cX8_isVerse 1 = .ok (.i2l, 1) := by decide +kernel
theorem dX8_isVerse_2 : decode cX8_isVerse 2 = .ok (.lconst 0, 1) := by decide +kernel
theorem dX8_isVerse_3 : decode cX8_isVerse 3 = .ok (.aload_n 0, 1) := by decide +kernel
theorem dX8_isVerse_4 : decode cX8_isVerse 4 = .ok (.getfield 28, 3) := by decide +kernel
theorem dX8_isVerse_7 : decode cX8_isVerse 7 = .ok (.iconst 0, 1) := by decide +kernel
theorem dX8_isVerse_8 : decode cX8_isVerse 8 = .ok (.iaload, 1) := by decide +kernel
theorem dX8_isVerse_9 : decode cX8_isVerse 9 = .ok (.iconst 1, 1) := by decide +kernel
theorem dX8_isVerse_10 : decode cX8_isVerse 10 = .ok (.isub, 1) := by decide +kernel
theorem dX8_isVerse_11 : decode cX8_isVerse 11 = .ok (.i2l, 1) := by decide +kernel
theorem dX8_isVerse_12 : decode cX8_isVerse 12 = .ok (.invokestatic 72, 3) := by decide +kernel
theorem dX8_isVerse_15 : decode cX8_isVerse 15 = .ok (.ireturn, 1) := by decide +kernel
theorem dX8_verse_0 : decode cX8_verse 0 = .ok (.aload_n 0, 1) := by decide +kernel
theorem dX8_verse_1 : decode cX8_verse 1 = .ok (.invokevirtual 162, 3) := by decide +kernel
theorem dX8_verse_4 : decode cX8_verse 4 = .ok (.aload_n 0, 1) := by decide +kernel
theorem dX8_verse_5 : decode cX8_verse 5 = .ok (.iload_n 1, 1) := by decide +kernel
theorem dX8_verse_6 : decode cX8_verse 6 = .ok (.invokevirtual 165, 3) := by decide +kernel
theorem dX8_verse_9 : decode cX8_verse 9 = .ok (.ifCond .eq 24, 3) := by decide +kernel
theorem dX8_verse_12 : decode cX8_verse 12 = .ok (.iload_n 2, 1) := by decide +kernel
theorem dX8_verse_13 : decode cX8_verse 13 = .ok (.i2l, 1) := by decide +kernel
theorem dX8_verse_14 : decode cX8_verse 14 = .ok (.lconst 0, 1) := by decide +kernel
theorem dX8_verse_15 : decode cX8_verse 15 = .ok (.ldc2_w 123, 3) := by decide +kernel
theorem dX8_verse_18 : decode cX8_verse 18 = .ok (.invokestatic 72, 3) := by decide +kernel
theorem dX8_verse_21 : decode cX8_verse 21 = .ok (.ifCond .eq 12, 3) := by decide +kernel
theorem dX8_verse_24 : decode cX8_verse 24 = .ok (.aload_n 0, 1) := by decide +kernel
theorem dX8_verse_25 : decode cX8_verse 25 = .ok (.iload_n 1, 1) := by decide +kernel
theorem dX8_verse_26 : decode cX8_verse 26 = .ok (.iload_n 2, 1) := by decide +kernel
theorem dX8_verse_27 : decode cX8_verse 27 = .ok (.invokevirtual 168, 3) := by decide +kernel
theorem dX8_verse_30 : decode cX8_verse 30 = .ok (.goto 5, 3) := by decide +kernel
theorem dX8_verse_33 : decode cX8_verse 33 = .ok (.bipush (-2), 2) := by decide +kernel
theorem dX8_verse_35 : decode cX8_verse 35 = .ok (.ireturn, 1) := by decide +kernel
theorem dX8_whenOf_0 : decode cX8_whenOf 0 = .ok (.iload_n 2, 1) := by decide +kernel
theorem dX8_whenOf_1 : decode cX8_whenOf 1 = .ok (.ifCond .ne 12, 3) := by decide +kernel
theorem dX8_whenOf_4 : decode cX8_whenOf 4 = .ok (.aload_n 0, 1) := by decide +kernel
theorem dX8_whenOf_5 : decode cX8_whenOf 5 = .ok (.getfield 46, 3) := by decide +kernel
theorem dX8_whenOf_8 : decode cX8_whenOf 8 = .ok (.iload_n 1, 1) := by decide +kernel
theorem dX8_whenOf_9 : decode cX8_whenOf 9 = .ok (.iaload, 1) := by decide +kernel
theorem dX8_whenOf_10 : decode cX8_whenOf 10 = .ok (.goto 51, 3) := by decide +kernel
theorem dX8_whenOf_13 : decode cX8_whenOf 13 = .ok (.iload_n 2, 1) := by decide +kernel
theorem dX8_whenOf_14 : decode cX8_whenOf 14 = .ok (.iconst 1, 1) := by decide +kernel
theorem dX8_whenOf_15 : decode cX8_whenOf 15 = .ok (.if_icmp .ne 12, 3) := by decide +kernel
theorem dX8_whenOf_18 : decode cX8_whenOf 18 = .ok (.aload_n 0, 1) := by decide +kernel
theorem dX8_whenOf_19 : decode cX8_whenOf 19 = .ok (.getfield 49, 3) := by decide +kernel
theorem dX8_whenOf_22 : decode cX8_whenOf 22 = .ok (.iload_n 1, 1) := by decide +kernel
theorem dX8_whenOf_23 : decode cX8_whenOf 23 = .ok (.iaload, 1) := by decide +kernel
theorem dX8_whenOf_24 : decode cX8_whenOf 24 = .ok (.goto 37, 3) := by decide +kernel
theorem dX8_whenOf_27 : decode cX8_whenOf 27 = .ok (.iload_n 2, 1) := by decide +kernel
theorem dX8_whenOf_28 : decode cX8_whenOf 28 = .ok (.iconst 2, 1) := by decide +kernel
theorem dX8_whenOf_29 : decode cX8_whenOf 29 = .ok (.if_icmp .ne 12, 3) := by decide +kernel
theorem dX8_whenOf_32 : decode cX8_whenOf 32 = .ok (.aload_n 0, 1) := by decide +kernel
theorem dX8_whenOf_33 : decode cX8_whenOf 33 = .ok (.getfield 52, 3) := by decide +kernel
theorem dX8_whenOf_36 : decode cX8_whenOf 36 = .ok (.iload_n 1, 1) := by decide +kernel
theorem dX8_whenOf_37 : decode cX8_whenOf 37 = .ok (.iaload, 1) := by decide +kernel
theorem dX8_whenOf_38 : decode cX8_whenOf 38 = .ok (.goto 23, 3) := by decide +kernel
theorem dX8_whenOf_41 : decode cX8_whenOf 41 = .ok (.iload_n 2, 1) := by decide +kernel
theorem dX8_whenOf_42 : decode cX8_whenOf 42 = .ok (.iconst 3, 1) := by decide +kernel
theorem dX8_whenOf_43 : decode cX8_whenOf 43 = .ok (.if_icmp .ne 12, 3) := by decide +kernel
theorem dX8_whenOf_46 : decode cX8_whenOf 46 = .ok (.aload_n 0, 1) := by decide +kernel
theorem dX8_whenOf_47 : decode cX8_whenOf 47 = .ok (.getfield 55, 3) := by decide +kernel
theorem dX8_whenOf_50 : decode cX8_whenOf 50 = .ok (.iload_n 1, 1) := by decide +kernel
theorem dX8_whenOf_51 : decode cX8_whenOf 51 = .ok (.iaload, 1) := by decide +kernel
theorem dX8_whenOf_52 : decode cX8_whenOf 52 = .ok (.goto 9, 3) := by decide +kernel
theorem dX8_whenOf_55 : decode cX8_whenOf 55 = .ok (.aload_n 0, 1) := by decide +kernel
theorem dX8_whenOf_56 : decode cX8_whenOf 56 = .ok (.getfield 58, 3) := by decide +kernel
theorem dX8_whenOf_59 : decode cX8_whenOf 59 = .ok (.iload_n 1, 1) := by decide +kernel
theorem dX8_whenOf_60 : decode cX8_whenOf 60 = .ok (.iaload, 1) := by decide +kernel
theorem dX8_whenOf_61 : decode cX8_whenOf 61 = .ok (.ireturn, 1) := by decide +kernel
theorem dX8_when_0 : decode cX8_when 0 = .ok (.aload_n 0, 1) := by decide +kernel
theorem dX8_when_1 : decode cX8_when 1 = .ok (.invokevirtual 162, 3) := by decide +kernel
theorem dX8_when_4 : decode cX8_when 4 = .ok (.aload_n 0, 1) := by decide +kernel
theorem dX8_when_5 : decode cX8_when 5 = .ok (.iload_n 1, 1) := by decide +kernel
theorem dX8_when_6 : decode cX8_when 6 = .ok (.invokevirtual 165, 3) := by decide +kernel
theorem dX8_when_9 : decode cX8_when 9 = .ok (.ifCond .eq 24, 3) := by decide +kernel
theorem dX8_when_12 : decode cX8_when 12 = .ok (.iload_n 2, 1) := by decide +kernel
theorem dX8_when_13 : decode cX8_when 13 = .ok (.i2l, 1) := by decide +kernel
theorem dX8_when_14 : decode cX8_when 14 = .ok (.lconst 0, 1) := by decide +kernel
theorem dX8_when_15 : decode cX8_when 15 = .ok (.ldc2_w 171, 3) := by decide +kernel
theorem dX8_when_18 : decode cX8_when 18 = .ok (.invokestatic 72, 3) := by decide +kernel
theorem dX8_when_21 : decode cX8_when 21 = .ok (.ifCond .eq 12, 3) := by decide +kernel
theorem dX8_when_24 : decode cX8_when 24 = .ok (.aload_n 0, 1) := by decide +kernel
theorem dX8_when_25 : decode cX8_when 25 = .ok (.iload_n 1, 1) := by decide +kernel
theorem dX8_when_26 : decode cX8_when 26 = .ok (.iload_n 2, 1) := by decide +kernel
theorem dX8_when_27 : decode cX8_when 27 = .ok (.invokevirtual 173, 3) := by decide +kernel
theorem dX8_when_30 : decode cX8_when 30 = .ok (.goto 5, 3) := by decide +kernel
theorem dX8_when_33 : decode cX8_when 33 = .ok (.bipush (-2), 2) := by decide +kernel
theorem dX8_when_35 : decode cX8_when 35 = .ok (.ireturn, 1) := by decide +kernel
theorem dX8_poemOf_0 : decode cX8_poemOf 0 = .ok (.iload_n 1, 1) := by decide +kernel
theorem dX8_poemOf_1 : decode cX8_poemOf 1 = .ok (.ifCond .ne 10, 3) := by decide +kernel
theorem dX8_poemOf_4 : decode cX8_poemOf 4 = .ok (.aload_n 0, 1) := by decide +kernel
theorem dX8_poemOf_5 : decode cX8_poemOf 5 = .ok (.getfield 146, 3) := by decide +kernel
theorem dX8_poemOf_8 : decode cX8_poemOf 8 = .ok (.goto 31, 3) := by decide +kernel
theorem dX8_poemOf_11 : decode cX8_poemOf 11 = .ok (.iload_n 1, 1) := by decide +kernel
theorem dX8_poemOf_12 : decode cX8_poemOf 12 = .ok (.iconst 1, 1) := by decide +kernel
theorem dX8_poemOf_13 : decode cX8_poemOf 13 = .ok (.if_icmp .ne 10, 3) := by decide +kernel
theorem dX8_poemOf_16 : decode cX8_poemOf 16 = .ok (.aload_n 0, 1) := by decide +kernel
theorem dX8_poemOf_17 : decode cX8_poemOf 17 = .ok (.getfield 140, 3) := by decide +kernel
theorem dX8_poemOf_20 : decode cX8_poemOf 20 = .ok (.goto 19, 3) := by decide +kernel
theorem dX8_poemOf_23 : decode cX8_poemOf 23 = .ok (.iload_n 1, 1) := by decide +kernel
theorem dX8_poemOf_24 : decode cX8_poemOf 24 = .ok (.iconst 2, 1) := by decide +kernel
theorem dX8_poemOf_25 : decode cX8_poemOf 25 = .ok (.if_icmp .ne 10, 3) := by decide +kernel
theorem dX8_poemOf_28 : decode cX8_poemOf 28 = .ok (.aload_n 0, 1) := by decide +kernel
theorem dX8_poemOf_29 : decode cX8_poemOf 29 = .ok (.getfield 143, 3) := by decide +kernel
theorem dX8_poemOf_32 : decode cX8_poemOf 32 = .ok (.goto 7, 3) := by decide +kernel
theorem dX8_poemOf_35 : decode cX8_poemOf 35 = .ok (.aload_n 0, 1) := by decide +kernel
theorem dX8_poemOf_36 : decode cX8_poemOf 36 = .ok (.getfield 149, 3) := by decide +kernel
theorem dX8_poemOf_39 : decode cX8_poemOf 39 = .ok (.ireturn, 1) := by decide +kernel
theorem dX8_poem_0 : decode cX8_poem 0 = .ok (.aload_n 0, 1) := by decide +kernel
theorem dX8_poem_1 : decode cX8_poem 1 = .ok (.invokevirtual 162, 3) := by decide +kernel
theorem dX8_poem_4 : decode cX8_poem 4 = .ok (.iload_n 1, 1) := by decide +kernel
theorem dX8_poem_5 : decode cX8_poem 5 = .ok (.i2l, 1) := by decide +kernel
theorem dX8_poem_6 : decode cX8_poem 6 = .ok (.lconst 0, 1) := by decide +kernel
theorem dX8_poem_7 : decode cX8_poem 7 = .ok (.ldc2_w 80, 3) := by decide +kernel
theorem dX8_poem_10 : decode cX8_poem 10 = .ok (.invokestatic 72, 3) := by decide +kernel
theorem dX8_poem_13 : decode cX8_poem 13 = .ok (.ifCond .eq 11, 3) := by decide +kernel
theorem dX8_poem_16 : decode cX8_poem 16 = .ok (.aload_n 0, 1) := by decide +kernel
theorem dX8_poem_17 : decode cX8_poem 17 = .ok (.iload_n 1, 1) := by decide +kernel
theorem dX8_poem_18 : decode cX8_poem 18 = .ok (.invokevirtual 176, 3) := by decide +kernel
theorem dX8_poem_21 : decode cX8_poem 21 = .ok (.goto 5, 3) := by decide +kernel
theorem dX8_poem_24 : decode cX8_poem 24 = .ok (.bipush (-2), 2) := by decide +kernel
theorem dX8_poem_26 : decode cX8_poem 26 = .ok (.ireturn, 1) := by decide +kernel
theorem dX8_judgedNow_0 : decode cX8_judgedNow 0 = .ok (.iconst 0, 1) := by decide +kernel
theorem dX8_judgedNow_1 : decode cX8_judgedNow 1 = .ok (.istore_n 1, 1) := by decide +kernel
theorem dX8_judgedNow_2 : decode cX8_judgedNow 2 = .ok (.iload_n 1, 1) := by decide +kernel
theorem dX8_judgedNow_3 : decode cX8_judgedNow 3 = .ok (.aload_n 0, 1) := by decide +kernel
theorem dX8_judgedNow_4 : decode cX8_judgedNow 4 = .ok (.getfield 128, 3) := by decide +kernel
theorem dX8_judgedNow_7 : decode cX8_judgedNow 7 = .ok (.if_icmp .ge 30, 3) := by decide +kernel
theorem dX8_judgedNow_10 : decode cX8_judgedNow 10 = .ok (.aload_n 0, 1) := by decide +kernel
theorem dX8_judgedNow_11 : decode cX8_judgedNow 11 = .ok (.getfield 58, 3) := by decide +kernel
theorem dX8_judgedNow_14 : decode cX8_judgedNow 14 = .ok (.iload_n 1, 1) := by decide +kernel
theorem dX8_judgedNow_15 : decode cX8_judgedNow 15 = .ok (.iaload, 1) := by decide +kernel
theorem dX8_judgedNow_16 : decode cX8_judgedNow 16 = .ok (.ifCond .ne 13, 3) := by decide +kernel
theorem dX8_judgedNow_19 : decode cX8_judgedNow 19 = .ok (.aload_n 0, 1) := by decide +kernel
theorem dX8_judgedNow_20 : decode cX8_judgedNow 20 = .ok (.getfield 55, 3) := by decide +kernel
theorem dX8_judgedNow_23 : decode cX8_judgedNow 23 = .ok (.iload_n 1, 1) := by decide +kernel
theorem dX8_judgedNow_24 : decode cX8_judgedNow 24 = .ok (.iaload, 1) := by decide +kernel
theorem dX8_judgedNow_25 : decode cX8_judgedNow 25 = .ok (.iconst (-1), 1) := by decide +kernel
theorem dX8_judgedNow_26 : decode cX8_judgedNow 26 = .ok (.if_icmp .ne 5, 3) := by decide +kernel
theorem dX8_judgedNow_29 : decode cX8_judgedNow 29 = .ok (.iload_n 1, 1) := by decide +kernel
theorem dX8_judgedNow_30 : decode cX8_judgedNow 30 = .ok (.ireturn, 1) := by decide +kernel
theorem dX8_judgedNow_31 : decode cX8_judgedNow 31 = .ok (.iinc 1 1, 3) := by decide +kernel
theorem dX8_judgedNow_34 : decode cX8_judgedNow 34 = .ok (.goto (-32), 3) := by decide +kernel
theorem dX8_judgedNow_37 : decode cX8_judgedNow 37 = .ok (.iconst (-1), 1) := by decide +kernel
theorem dX8_judgedNow_38 : decode cX8_judgedNow 38 = .ok (.ireturn, 1) := by decide +kernel
theorem dX8_judged_0 : decode cX8_judged 0 = .ok (.aload_n 0, 1) := by decide +kernel
theorem dX8_judged_1 : decode cX8_judged 1 = .ok (.invokevirtual 162, 3) := by decide +kernel
theorem dX8_judged_4 : decode cX8_judged 4 = .ok (.aload_n 0, 1) := by decide +kernel
theorem dX8_judged_5 : decode cX8_judged 5 = .ok (.invokevirtual 179, 3) := by decide +kernel
theorem dX8_judged_8 : decode cX8_judged 8 = .ok (.ireturn, 1) := by decide +kernel
theorem dX8_isFree_0 : decode cX8_isFree 0 = .ok (.iconst 1, 1) := by decide +kernel
theorem dX8_isFree_1 : decode cX8_isFree 1 = .ok (.istore_n 2, 1) := by decide +kernel
theorem dX8_isFree_2 : decode cX8_isFree 2 = .ok (.iconst 0, 1) := by decide +kernel
theorem dX8_isFree_3 : decode cX8_isFree 3 = .ok (.istore_n 3, 1) := by decide +kernel
theorem dX8_isFree_4 : decode cX8_isFree 4 = .ok (.iload_n 3, 1) := by decide +kernel
theorem dX8_isFree_5 : decode cX8_isFree 5 = .ok (.aload_n 0, 1) := by decide +kernel
theorem dX8_isFree_6 : decode cX8_isFree 6 = .ok (.getfield 128, 3) := by decide +kernel
theorem dX8_isFree_9 : decode cX8_isFree 9 = .ok (.if_icmp .ge 70, 3) := by decide +kernel
theorem dX8_isFree_12 : decode cX8_isFree 12 = .ok (.aload_n 0, 1) := by decide +kernel
theorem dX8_isFree_13 : decode cX8_isFree 13 = .ok (.getfield 46, 3) := by decide +kernel
theorem dX8_isFree_16 : decode cX8_isFree 16 = .ok (.iload_n 3, 1) := by decide +kernel
theorem dX8_isFree_17 : decode cX8_isFree 17 = .ok (.iaload, 1) := by decide +kernel
theorem dX8_isFree_18 : decode cX8_isFree 18 = .ok (.iconst (-1), 1) := by decide +kernel
theorem dX8_isFree_19 : decode cX8_isFree 19 = .ok (.if_icmp .eq 27, 3) := by decide +kernel
theorem dX8_isFree_22 : decode cX8_isFree 22 = .ok (.iload_n 1, 1) := by decide +kernel
theorem dX8_isFree_23 : decode cX8_isFree 23 = .ok (.aload_n 0, 1) := by decide +kernel
theorem dX8_isFree_24 : decode cX8_isFree 24 = .ok (.getfield 46, 3) := by decide +kernel
theorem dX8_isFree_27 : decode cX8_isFree 27 = .ok (.iload_n 3, 1) := by decide +kernel
theorem dX8_isFree_28 : decode cX8_isFree 28 = .ok (.iaload, 1) := by decide +kernel
theorem dX8_isFree_29 : decode cX8_isFree 29 = .ok (.if_icmp .lt 17, 3) := by decide +kernel
theorem dX8_isFree_32 : decode cX8_isFree 32 = .ok (.iload_n 1, 1) := by decide +kernel
theorem dX8_isFree_33 : decode cX8_isFree 33 = .ok (.aload_n 0, 1) := by decide +kernel
theorem dX8_isFree_34 : decode cX8_isFree 34 = .ok (.getfield 49, 3) := by decide +kernel
theorem dX8_isFree_37 : decode cX8_isFree 37 = .ok (.iload_n 3, 1) := by decide +kernel
theorem dX8_isFree_38 : decode cX8_isFree 38 = .ok (.iaload, 1) := by decide +kernel
theorem dX8_isFree_39 : decode cX8_isFree 39 = .ok (.if_icmp .ge 7, 3) := by decide +kernel
theorem dX8_isFree_42 : decode cX8_isFree 42 = .ok (.iconst 1, 1) := by decide +kernel
theorem dX8_isFree_43 : decode cX8_isFree 43 = .ok (.goto 4, 3) := by decide +kernel
theorem dX8_isFree_46 : decode cX8_isFree 46 = .ok (.iconst 0, 1) := by decide +kernel
theorem dX8_isFree_47 : decode cX8_isFree 47 = .ok (.istore 4, 2) := by decide +kernel
theorem dX8_isFree_49 : decode cX8_isFree 49 = .ok (.iload_n 2, 1) := by decide +kernel
theorem dX8_isFree_50 : decode cX8_isFree 50 = .ok (.ifCond .eq 21, 3) := by decide +kernel
theorem dX8_isFree_53 : decode cX8_isFree 53 = .ok (.iload 4, 2) := by decide +kernel
theorem dX8_isFree_55 : decode cX8_isFree 55 = .ok (.ifCond .eq 12, 3) := by decide +kernel
theorem dX8_isFree_58 : decode cX8_isFree 58 = .ok (.aload_n 0, 1) := by decide +kernel
theorem dX8_isFree_59 : decode cX8_isFree 59 = .ok (.iload_n 3, 1) := by decide +kernel
theorem dX8_isFree_60 : decode cX8_isFree 60 = .ok (.invokevirtual 131, 3) := by decide +kernel
theorem dX8_isFree_63 : decode cX8_isFree 63 = .ok (.iconst 2, 1) := by decide +kernel
theorem dX8_isFree_64 : decode cX8_isFree 64 = .ok (.if_icmp .ne 7, 3) := by decide +kernel
theorem dX8_isFree_67 : decode cX8_isFree 67 = .ok (.iconst 1, 1) := by decide +kernel
theorem dX8_isFree_68 : decode cX8_isFree 68 = .ok (.goto 4, 3) := by decide +kernel
theorem dX8_isFree_71 : decode cX8_isFree 71 = .ok (.iconst 0, 1) := by decide +kernel
theorem dX8_isFree_72 : decode cX8_isFree 72 = .ok (.istore_n 2, 1) := by decide +kernel
theorem dX8_isFree_73 : decode cX8_isFree 73 = .ok (.iinc 3 1, 3) := by decide +kernel
theorem dX8_isFree_76 : decode cX8_isFree 76 = .ok (.goto (-72), 3) := by decide +kernel
theorem dX8_isFree_79 : decode cX8_isFree 79 = .ok (.iload_n 2, 1) := by decide +kernel
theorem dX8_isFree_80 : decode cX8_isFree 80 = .ok (.ireturn, 1) := by decide +kernel
theorem dX8_freeAhead_0 : decode cX8_freeAhead 0 = .ok (.iload_n 1, 1) := by decide +kernel
theorem dX8_freeAhead_1 : decode cX8_freeAhead 1 = .ok (.istore_n 3, 1) := by decide +kernel
theorem dX8_freeAhead_2 : decode cX8_freeAhead 2 = .ok (.iconst 0, 1) := by decide +kernel
theorem dX8_freeAhead_3 : decode cX8_freeAhead 3 = .ok (.istore 4, 2) := by decide +kernel
theorem dX8_freeAhead_5 : decode cX8_freeAhead 5 = .ok (.iload 4, 2) := by decide +kernel
theorem dX8_freeAhead_7 : decode cX8_freeAhead 7 = .ok (.iload_n 2, 1) := by decide +kernel
theorem dX8_freeAhead_8 : decode cX8_freeAhead 8 = .ok (.if_icmp .ge 26, 3) := by decide +kernel
theorem dX8_freeAhead_11 : decode cX8_freeAhead 11 = .ok (.iload_n 3, 1) := by decide +kernel
theorem dX8_freeAhead_12 : decode cX8_freeAhead 12 = .ok (.aload_n 0, 1) := by decide +kernel
theorem dX8_freeAhead_13 : decode cX8_freeAhead 13 = .ok (.iload 4, 2) := by decide +kernel
theorem dX8_freeAhead_15 : decode cX8_freeAhead 15 = .ok (.invokevirtual 183, 3) := by decide +kernel
theorem dX8_freeAhead_18 : decode cX8_freeAhead 18 = .ok (.ifCond .eq 7, 3) := by decide +kernel
theorem dX8_freeAhead_21 : decode cX8_freeAhead 21 = .ok (.iconst 1, 1) := by decide +kernel
theorem dX8_freeAhead_22 : decode cX8_freeAhead 22 = .ok (.goto 4, 3) := by decide +kernel
theorem dX8_freeAhead_25 : decode cX8_freeAhead 25 = .ok (.iconst 0, 1) := by decide +kernel
theorem dX8_freeAhead_26 : decode cX8_freeAhead 26 = .ok (.iadd, 1) := by decide +kernel
theorem dX8_freeAhead_27 : decode cX8_freeAhead 27 = .ok (.istore_n 3, 1) := by decide +kernel
theorem dX8_freeAhead_28 : decode cX8_freeAhead 28 = .ok (.iinc 4 1, 3) := by decide +kernel
theorem dX8_freeAhead_31 : decode cX8_freeAhead 31 = .ok (.goto (-26), 3) := by decide +kernel
theorem dX8_freeAhead_34 : decode cX8_freeAhead 34 = .ok (.iload_n 3, 1) := by decide +kernel
theorem dX8_freeAhead_35 : decode cX8_freeAhead 35 = .ok (.ireturn, 1) := by decide +kernel
theorem dX8_restOf_0 : decode cX8_restOf 0 = .ok (.aload_n 0, 1) := by decide +kernel
theorem dX8_restOf_1 : decode cX8_restOf 1 = .ok (.getfield 46, 3) := by decide +kernel
theorem dX8_restOf_4 : decode cX8_restOf 4 = .ok (.iload_n 1, 1) := by decide +kernel
theorem dX8_restOf_5 : decode cX8_restOf 5 = .ok (.iaload, 1) := by decide +kernel
theorem dX8_restOf_6 : decode cX8_restOf 6 = .ok (.iconst (-1), 1) := by decide +kernel
theorem dX8_restOf_7 : decode cX8_restOf 7 = .ok (.if_icmp .ne 6, 3) := by decide +kernel
theorem dX8_restOf_10 : decode cX8_restOf 10 = .ok (.bipush (-3), 2) := by decide +kernel
theorem dX8_restOf_12 : decode cX8_restOf 12 = .ok (.ireturn, 1) := by decide +kernel
theorem dX8_restOf_13 : decode cX8_restOf 13 = .ok (.aload_n 0, 1) := by decide +kernel
theorem dX8_restOf_14 : decode cX8_restOf 14 = .ok (.aload_n 0, 1) := by decide +kernel
