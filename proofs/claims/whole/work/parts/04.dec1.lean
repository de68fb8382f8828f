theorem dX9_init_187 : decode cX9_init 187 = .ok (.aastore, 1) := by decide +kernel
theorem dX9_init_188 : decode cX9_init 188 = .ok (.iinc 1 1, 3) := by decide +kernel
theorem dX9_init_191 : decode cX9_init 191 = .ok (.goto (-21), 3) := by decide +kernel
theorem dX9_init_194 : decode cX9_init 194 = .ok (.iconst 0, 1) := by decide +kernel
theorem dX9_init_195 : decode cX9_init 195 = .ok (.istore_n 1, 1) := by decide +kernel
theorem dX9_init_196 : decode cX9_init 196 = .ok (.iload_n 1, 1) := by decide +kernel
theorem dX9_init_197 : decode cX9_init 197 = .ok (.iconst 3, 1) := by decide +kernel
theorem dX9_init_198 : decode cX9_init 198 = .ok (.if_icmp .ge 32, 3) := by decide +kernel
theorem dX9_init_201 : decode cX9_init 201 = .ok (.aload_n 0, 1) := by decide +kernel
theorem dX9_init_202 : decode cX9_init 202 = .ok (.getfield 49, 3) := by decide +kernel
theorem dX9_init_205 : decode cX9_init 205 = .ok (.iload_n 1, 1) := by decide +kernel
theorem dX9_init_206 : decode cX9_init 206 = .ok (.new 42, 3) := by decide +kernel
theorem dX9_init_209 : decode cX9_init 209 = .ok (.dup, 1) := by decide +kernel
theorem dX9_init_210 : decode cX9_init 210 = .ok (.invokespecial 44, 3) := by decide +kernel
theorem dX9_init_213 : decode cX9_init 213 = .ok (.aastore, 1) := by decide +kernel
theorem dX9_init_214 : decode cX9_init 214 = .ok (.aload_n 0, 1) := by decide +kernel
theorem dX9_init_215 : decode cX9_init 215 = .ok (.getfield 49, 3) := by decide +kernel
theorem dX9_init_218 : decode cX9_init 218 = .ok (.iload_n 1, 1) := by decide +kernel
theorem dX9_init_219 : decode cX9_init 219 = .ok (.aaload, 1) := by decide +kernel
theorem dX9_init_220 : decode cX9_init 220 = .ok (.iconst (-1), 1) := by decide +kernel
theorem dX9_init_221 : decode cX9_init 221 = .ok (.putfield 97, 3) := by decide +kernel
theorem dX9_init_224 : decode cX9_init 224 = .ok (.iinc 1 1, 3) := by decide +kernel
theorem dX9_init_227 : decode cX9_init 227 = .ok (.goto (-31), 3) := by decide +kernel
theorem dX9_init_230 : decode cX9_init 230 = .ok (.return_, 1) := by decide +kernel
theorem dX9_row_0 : decode cX9_row 0 = .ok (.iload_n 1, 1) := by decide +kernel
theorem dX9_row_1 : decode cX9_row 1 = .ok (.invokestatic 100, 3) := by decide +kernel
theorem dX9_row_4 : decode cX9_row 4 = .ok (.ifCond .eq 9, 3) := by decide +kernel
theorem dX9_row_7 : decode cX9_row 7 = .ok (.iload_n 2, 1) := by decide +kernel
theorem dX9_row_8 : decode cX9_row 8 = .ok (.bipush 40, 2) := by decide +kernel
theorem dX9_row_10 : decode cX9_row 10 = .ok (.if_icmp .le 5, 3) := by decide +kernel
theorem dX9_row_13 : decode cX9_row 13 = .ok (.iconst (-1), 1) := by decide +kernel
theorem dX9_row_14 : decode cX9_row 14 = .ok (.ireturn, 1) := by decide +kernel
theorem dX9_row_15 : decode cX9_row 15 = .ok (.iload_n 2, 1) := by decide +kernel
theorem dX9_row_16 : decode cX9_row 16 = .ok (.ifCond .ge 9, 3) := by decide +kernel
theorem dX9_row_19 : decode cX9_row 19 = .ok (.aload_n 0, 1) := by decide +kernel
theorem dX9_row_20 : decode cX9_row 20 = .ok (.iconst 5, 1) := by decide +kernel
theorem dX9_row_21 : decode cX9_row 21 = .ok (.invokevirtual 104, 3) := by decide +kernel
theorem dX9_row_24 : decode cX9_row 24 = .ok (.ireturn, 1) := by decide +kernel
theorem dX9_row_25 : decode cX9_row 25 = .ok (.aload_n 0, 1) := by decide +kernel
theorem dX9_row_26 : decode cX9_row 26 = .ok (.getfield 11, 3) := by decide +kernel
theorem dX9_row_29 : decode cX9_row 29 = .ok (.iload_n 1, 1) := by decide +kernel
theorem dX9_row_30 : decode cX9_row 30 = .ok (.aaload, 1) := by decide +kernel
theorem dX9_row_31 : decode cX9_row 31 = .ok (.iload_n 2, 1) := by decide +kernel
theorem dX9_row_32 : decode cX9_row 32 = .ok (.invokevirtual 108, 3) := by decide +kernel
theorem dX9_row_35 : decode cX9_row 35 = .ok (.iload_n 2, 1) := by decide +kernel
theorem dX9_row_36 : decode cX9_row 36 = .ok (.ireturn, 1) := by decide +kernel
theorem dX9_lay_0 : decode cX9_lay 0 = .ok (.aload_n 0, 1) := by decide +kernel
theorem dX9_lay_1 : decode cX9_lay 1 = .ok (.iload_n 1, 1) := by decide +kernel
theorem dX9_lay_2 : decode cX9_lay 2 = .ok (.iload_n 2, 1) := by decide +kernel
theorem dX9_lay_3 : decode cX9_lay 3 = .ok (.invokevirtual 112, 3) := by decide +kernel
theorem dX9_lay_6 : decode cX9_lay 6 = .ok (.istore 4, 2) := by decide +kernel
theorem dX9_lay_8 : decode cX9_lay 8 = .ok (.iload 4, 2) := by decide +kernel
theorem dX9_lay_10 : decode cX9_lay 10 = .ok (.ifCond .eq 6, 3) := by decide +kernel
theorem dX9_lay_13 : decode cX9_lay 13 = .ok (.iload 4, 2) := by decide +kernel
theorem dX9_lay_15 : decode cX9_lay 15 = .ok (.ireturn, 1) := by decide +kernel
theorem dX9_lay_16 : decode cX9_lay 16 = .ok (.aload_n 0, 1) := by decide +kernel
theorem dX9_lay_17 : decode cX9_lay 17 = .ok (.aload_n 0, 1) := by decide +kernel
theorem dX9_lay_18 : decode cX9_lay 18 = .ok (.getfield 11, 3) := by decide +kernel
theorem dX9_lay_21 : decode cX9_lay 21 = .ok (.iload_n 1, 1) := by decide +kernel
theorem dX9_lay_22 : decode cX9_lay 22 = .ok (.aaload, 1) := by decide +kernel
theorem dX9_lay_23 : decode cX9_lay 23 = .ok (.getfield 116, 3) := by decide +kernel
theorem dX9_lay_26 : decode cX9_lay 26 = .ok (.iload_n 2, 1) := by decide +kernel
theorem dX9_lay_27 : decode cX9_lay 27 = .ok (.iaload, 1) := by decide +kernel
theorem dX9_lay_28 : decode cX9_lay 28 = .ok (.putfield 85, 3) := by decide +kernel
theorem dX9_lay_31 : decode cX9_lay 31 = .ok (.aload_n 0, 1) := by decide +kernel
theorem dX9_lay_32 : decode cX9_lay 32 = .ok (.getfield 11, 3) := by decide +kernel
theorem dX9_lay_35 : decode cX9_lay 35 = .ok (.iload_n 1, 1) := by decide +kernel
theorem dX9_lay_36 : decode cX9_lay 36 = .ok (.aaload, 1) := by decide +kernel
theorem dX9_lay_37 : decode cX9_lay 37 = .ok (.getfield 116, 3) := by decide +kernel
theorem dX9_lay_40 : decode cX9_lay 40 = .ok (.iload_n 2, 1) := by decide +kernel
theorem dX9_lay_41 : decode cX9_lay 41 = .ok (.iload_n 3, 1) := by decide +kernel
theorem dX9_lay_42 : decode cX9_lay 42 = .ok (.iastore, 1) := by decide +kernel
theorem dX9_lay_43 : decode cX9_lay 43 = .ok (.iconst 1, 1) := by decide +kernel
theorem dX9_lay_44 : decode cX9_lay 44 = .ok (.ireturn, 1) := by decide +kernel
theorem dX9_at_0 : decode cX9_at 0 = .ok (.aload_n 0, 1) := by decide +kernel
theorem dX9_at_1 : decode cX9_at 1 = .ok (.iload_n 1, 1) := by decide +kernel
theorem dX9_at_2 : decode cX9_at 2 = .ok (.iload_n 2, 1) := by decide +kernel
theorem dX9_at_3 : decode cX9_at 3 = .ok (.invokevirtual 112, 3) := by decide +kernel
theorem dX9_at_6 : decode cX9_at 6 = .ok (.istore_n 3, 1) := by decide +kernel
theorem dX9_at_7 : decode cX9_at 7 = .ok (.iload_n 3, 1) := by decide +kernel
theorem dX9_at_8 : decode cX9_at 8 = .ok (.ifCond .eq 5, 3) := by decide +kernel
theorem dX9_at_11 : decode cX9_at 11 = .ok (.iload_n 3, 1) := by decide +kernel
theorem dX9_at_12 : decode cX9_at 12 = .ok (.ireturn, 1) := by decide +kernel
theorem dX9_at_13 : decode cX9_at 13 = .ok (.aload_n 0, 1) := by decide +kernel
theorem dX9_at_14 : decode cX9_at 14 = .ok (.aload_n 0, 1) := by decide +kernel
theorem dX9_at_15 : decode cX9_at 15 = .ok (.getfield 11, 3) := by decide +kernel
theorem dX9_at_18 : decode cX9_at 18 = .ok (.iload_n 1, 1) := by decide +kernel
theorem dX9_at_19 : decode cX9_at 19 = .ok (.aaload, 1) := by decide +kernel
theorem dX9_at_20 : decode cX9_at 20 = .ok (.getfield 116, 3) := by decide +kernel
theorem dX9_at_23 : decode cX9_at 23 = .ok (.iload_n 2, 1) := by decide +kernel
theorem dX9_at_24 : decode cX9_at 24 = .ok (.iaload, 1) := by decide +kernel
theorem dX9_at_25 : decode cX9_at 25 = .ok (.putfield 85, 3) := by decide +kernel
theorem dX9_at_28 : decode cX9_at 28 = .ok (.iconst 1, 1) := by decide +kernel
theorem dX9_at_29 : decode cX9_at 29 = .ok (.ireturn, 1) := by decide +kernel
theorem dX9_tear_0 : decode cX9_tear 0 = .ok (.iload_n 1, 1) := by decide +kernel
theorem dX9_tear_1 : decode cX9_tear 1 = .ok (.invokestatic 100, 3) := by decide +kernel
theorem dX9_tear_4 : decode cX9_tear 4 = .ok (.ifCond .ne 5, 3) := by decide +kernel
theorem dX9_tear_7 : decode cX9_tear 7 = .ok (.iconst (-1), 1) := by decide +kernel
theorem dX9_tear_8 : decode cX9_tear 8 = .ok (.ireturn, 1) := by decide +kernel
theorem dX9_tear_9 : decode cX9_tear 9 = .ok (.aload_n 0, 1) := by decide +kernel
theorem dX9_tear_10 : decode cX9_tear 10 = .ok (.getfield 11, 3) := by decide +kernel
theorem dX9_tear_13 : decode cX9_tear 13 = .ok (.iload_n 1, 1) := by decide +kernel
theorem dX9_tear_14 : decode cX9_tear 14 = .ok (.aaload, 1) := by decide +kernel
theorem dX9_tear_15 : decode cX9_tear 15 = .ok (.invokevirtual 119, 3) := by decide +kernel
theorem dX9_tear_18 : decode cX9_tear 18 = .ok (.ifCond .ne 9, 3) := by decide +kernel
theorem dX9_tear_21 : decode cX9_tear 21 = .ok (.aload_n 0, 1) := by decide +kernel
theorem dX9_tear_22 : decode cX9_tear 22 = .ok (.iconst 1, 1) := by decide +kernel
theorem dX9_tear_23 : decode cX9_tear 23 = .ok (.invokevirtual 104, 3) := by decide +kernel
theorem dX9_tear_26 : decode cX9_tear 26 = .ok (.ireturn, 1) := by decide +kernel
theorem dX9_tear_27 : decode cX9_tear 27 = .ok (.aload_n 0, 1) := by decide +kernel
theorem dX9_tear_28 : decode cX9_tear 28 = .ok (.getfield 11, 3) := by decide +kernel
theorem dX9_tear_31 : decode cX9_tear 31 = .ok (.iload_n 1, 1) := by decide +kernel
theorem dX9_tear_32 : decode cX9_tear 32 = .ok (.aaload, 1) := by decide +kernel
theorem dX9_tear_33 : decode cX9_tear 33 = .ok (.iconst (-1), 1) := by decide +kernel
theorem dX9_tear_34 : decode cX9_tear 34 = .ok (.putfield 123, 3) := by decide +kernel
theorem dX9_tear_37 : decode cX9_tear 37 = .ok (.iconst 1, 1) := by decide +kernel
theorem dX9_tear_38 : decode cX9_tear 38 = .ok (.ireturn, 1) := by decide +kernel
theorem dX9_copy_0 : decode cX9_copy 0 = .ok (.iload_n 1, 1) := by decide +kernel
theorem dX9_copy_1 : decode cX9_copy 1 = .ok (.invokestatic 100, 3) := by decide +kernel
theorem dX9_copy_4 : decode cX9_copy 4 = .ok (.ifCond .eq 10, 3) := by decide +kernel
theorem dX9_copy_7 : decode cX9_copy 7 = .ok (.iload_n 3, 1) := by decide +kernel
theorem dX9_copy_8 : decode cX9_copy 8 = .ok (.invokestatic 100, 3) := by decide +kernel
theorem dX9_copy_11 : decode cX9_copy 11 = .ok (.ifCond .ne 5, 3) := by decide +kernel
theorem dX9_copy_14 : decode cX9_copy 14 = .ok (.iconst (-1), 1) := by decide +kernel
theorem dX9_copy_15 : decode cX9_copy 15 = .ok (.ireturn, 1) := by decide +kernel
theorem dX9_copy_16 : decode cX9_copy 16 = .ok (.iload 5, 2) := by decide +kernel
theorem dX9_copy_18 : decode cX9_copy 18 = .ok (.ifCond .ge 9, 3) := by decide +kernel
theorem dX9_copy_21 : decode cX9_copy 21 = .ok (.aload_n 0, 1) := by decide +kernel
theorem dX9_copy_22 : decode cX9_copy 22 = .ok (.iconst 5, 1) := by decide +kernel
theorem dX9_copy_23 : decode cX9_copy 23 = .ok (.invokevirtual 104, 3) := by decide +kernel
theorem dX9_copy_26 : decode cX9_copy 26 = .ok (.ireturn, 1) := by decide +kernel
theorem dX9_copy_27 : decode cX9_copy 27 = .ok (.aload_n 0, 1) := by decide +kernel
theorem dX9_copy_28 : decode cX9_copy 28 = .ok (.getfield 11, 3) := by decide +kernel
theorem dX9_copy_31 : decode cX9_copy 31 = .ok (.iload_n 1, 1) := by decide +kernel
theorem dX9_copy_32 : decode cX9_copy 32 = .ok (.aaload, 1) := by decide +kernel
theorem dX9_copy_33 : decode cX9_copy 33 = .ok (.invokevirtual 119, 3) := by decide +kernel
theorem dX9_copy_36 : decode cX9_copy 36 = .ok (.ifCond .eq 15, 3) := by decide +kernel
theorem dX9_copy_39 : decode cX9_copy 39 = .ok (.aload_n 0, 1) := by decide +kernel
theorem dX9_copy_40 : decode cX9_copy 40 = .ok (.getfield 11, 3) := by decide +kernel
theorem dX9_copy_43 : decode cX9_copy 43 = .ok (.iload_n 3, 1) := by decide +kernel
theorem dX9_copy_44 : decode cX9_copy 44 = .ok (.aaload, 1) := by decide +kernel
theorem dX9_copy_45 : decode cX9_copy 45 = .ok (.invokevirtual 119, 3) := by decide +kernel
theorem dX9_copy_48 : decode cX9_copy 48 = .ok (.ifCond .ne 9, 3) := by decide +kernel
theorem dX9_copy_51 : decode cX9_copy 51 = .ok (.aload_n 0, 1) := by decide +kernel
theorem dX9_copy_52 : decode cX9_copy 52 = .ok (.iconst 1, 1) := by decide +kernel
theorem dX9_copy_53 : decode cX9_copy 53 = .ok (.invokevirtual 104, 3) := by decide +kernel
theorem dX9_copy_56 : decode cX9_copy 56 = .ok (.ireturn, 1) := by decide +kernel
theorem dX9_copy_57 : decode cX9_copy 57 = .ok (.aload_n 0, 1) := by decide +kernel
theorem dX9_copy_58 : decode cX9_copy 58 = .ok (.getfield 11, 3) := by decide +kernel
theorem dX9_copy_61 : decode cX9_copy 61 = .ok (.iload_n 1, 1) := by decide +kernel
theorem dX9_copy_62 : decode cX9_copy 62 = .ok (.aaload, 1) := by decide +kernel
theorem dX9_copy_63 : decode cX9_copy 63 = .ok (.iload_n 2, 1) := by decide +kernel
theorem dX9_copy_64 : decode cX9_copy 64 = .ok (.iload 5, 2) := by decide +kernel
theorem dX9_copy_66 : decode cX9_copy 66 = .ok (.invokevirtual 124, 3) := by decide +kernel
theorem dX9_copy_69 : decode cX9_copy 69 = .ok (.ifCond .eq 19, 3) := by decide +kernel
theorem dX9_copy_72 : decode cX9_copy 72 = .ok (.aload_n 0, 1) := by decide +kernel
theorem dX9_copy_73 : decode cX9_copy 73 = .ok (.getfield 11, 3) := by decide +kernel
theorem dX9_copy_76 : decode cX9_copy 76 = .ok (.iload_n 3, 1) := by decide +kernel
theorem dX9_copy_77 : decode cX9_copy 77 = .ok (.aaload, 1) := by decide +kernel
theorem dX9_copy_78 : decode cX9_copy 78 = .ok (.iload 4, 2) := by decide +kernel
theorem dX9_copy_80 : decode cX9_copy 80 = .ok (.iload 5, 2) := by decide +kernel
theorem dX9_copy_82 : decode cX9_copy 82 = .ok (.invokevirtual 124, 3) := by decide +kernel
theorem dX9_copy_85 : decode cX9_copy 85 = .ok (.ifCond .ne 9, 3) := by decide +kernel
theorem dX9_copy_88 : decode cX9_copy 88 = .ok (.aload_n 0, 1) := by decide +kernel
theorem dX9_copy_89 : decode cX9_copy 89 = .ok (.iconst 2, 1) := by decide +kernel
theorem dX9_copy_90 : decode cX9_copy 90 = .ok (.invokevirtual 104, 3) := by decide +kernel
theorem dX9_copy_93 : decode cX9_copy 93 = .ok (.ireturn, 1) := by decide +kernel
theorem dX9_copy_94 : decode cX9_copy 94 = .ok (.aload_n 0, 1) := by decide +kernel
theorem dX9_copy_95 : decode cX9_copy 95 = .ok (.getfield 11, 3) := by decide +kernel
theorem dX9_copy_98 : decode cX9_copy 98 = .ok (.iload_n 1, 1) := by decide +kernel
theorem dX9_copy_99 : decode cX9_copy 99 = .ok (.aaload, 1) := by decide +kernel
theorem dX9_copy_100 : decode cX9_copy 100 = .ok (.getfield 116, 3) := by decide +kernel
theorem dX9_copy_103 : decode cX9_copy 103 = .ok (.iload_n 2, 1) := by decide +kernel
theorem dX9_copy_104 : decode cX9_copy 104 = .ok (.aload_n 0, 1) := by decide +kernel
theorem dX9_copy_105 : decode cX9_copy 105 = .ok (.getfield 11, 3) := by decide +kernel
theorem dX9_copy_108 : decode cX9_copy 108 = .ok (.iload_n 3, 1) := by decide +kernel
theorem dX9_copy_109 : decode cX9_copy 109 = .ok (.aaload, 1) := by decide +kernel
theorem dX9_copy_110 : decode cX9_copy 110 = .ok (.getfield 116, 3) := by decide +kernel
theorem dX9_copy_113 : decode cX9_copy 113 = .ok (.iload 4, 2) := by decide +kernel
theorem dX9_copy_115 : decode cX9_copy 115 = .ok (.iload 5, 2) := by decide +kernel
theorem dX9_copy_117 : decode cX9_copy 117 = .ok (.invokestatic 128, 3) := by decide +kernel
theorem dX9_copy_120 : decode cX9_copy 120 = .ok (.iconst 1, 1) := by decide +kernel
theorem dX9_copy_121 : decode cX9_copy 121 = .ok (.ireturn, 1) := by decide +kernel
theorem dX9_mean_0 : decode cX9_mean 0 = .ok (.iload_n 1, 1) := by decide +kernel
theorem dX9_mean_1 : decode cX9_mean 1 = .ok (.invokestatic 100, 3) := by decide +kernel
theorem dX9_mean_4 : decode cX9_mean 4 = .ok (.ifCond .ne 5, 3) := by decide +kernel
theorem dX9_mean_7 : decode cX9_mean 7 = .ok (.iconst (-1), 1) := by decide +kernel
theorem dX9_mean_8 : decode cX9_mean 8 = .ok (.ireturn, 1) := by decide +kernel
theorem dX9_mean_9 : decode cX9_mean 9 = .ok (.aload_n 0, 1) := by decide +kernel
theorem dX9_mean_10 : decode cX9_mean 10 = .ok (.getfield 11, 3) := by decide +kernel
theorem dX9_mean_13 : decode cX9_mean 13 = .ok (.iload_n 1, 1) := by decide +kernel
theorem dX9_mean_14 : decode cX9_mean 14 = .ok (.aaload, 1) := by decide +kernel
theorem dX9_mean_15 : decode cX9_mean 15 = .ok (.invokevirtual 119, 3) := by decide +kernel
theorem dX9_mean_18 : decode cX9_mean 18 = .ok (.ifCond .ne 9, 3) := by decide +kernel
theorem dX9_mean_21 : decode cX9_mean 21 = .ok (.aload_n 0, 1) := by decide +kernel
theorem dX9_mean_22 : decode cX9_mean 22 = .ok (.iconst 1, 1) := by decide +kernel
theorem dX9_mean_23 : decode cX9_mean 23 = .ok (.invokevirtual 104, 3) := by decide +kernel
theorem dX9_mean_26 : decode cX9_mean 26 = .ok (.ireturn, 1) := by decide +kernel
theorem dX9_mean_27 : decode cX9_mean 27 = .ok (.aload_n 0, 1) := by decide +kernel
theorem dX9_mean_28 : decode cX9_mean 28 = .ok (.getfield 11, 3) := by decide +kernel
theorem dX9_mean_31 : decode cX9_mean 31 = .ok (.iload_n 1, 1) := by decide +kernel
theorem dX9_mean_32 : decode cX9_mean 32 = .ok (.aaload, 1) := by decide +kernel
theorem dX9_mean_33 : decode cX9_mean 33 = .ok (.getfield 123, 3) := by decide +kernel
theorem dX9_mean_36 : decode cX9_mean 36 = .ok (.istore_n 2, 1) := by decide +kernel
theorem dX9_mean_37 : decode cX9_mean 37 = .ok (.iload_n 2, 1) := by decide +kernel
theorem dX9_mean_38 : decode cX9_mean 38 = .ok (.ifCond .ne 9, 3) := by decide +kernel
theorem dX9_mean_41 : decode cX9_mean 41 = .ok (.aload_n 0, 1) := by decide +kernel
theorem dX9_mean_42 : decode cX9_mean 42 = .ok (.iconst 4, 1) := by decide +kernel
theorem dX9_mean_43 : decode cX9_mean 43 = .ok (.invokevirtual 104, 3) := by decide +kernel
theorem dX9_mean_46 : decode cX9_mean 46 = .ok (.ireturn, 1) := by decide +kernel
theorem dX9_mean_47 : decode cX9_mean 47 = .ok (.aload_n 0, 1) := by decide +kernel
theorem dX9_mean_48 : decode cX9_mean 48 = .ok (.aload_n 0, 1) := by decide +kernel
theorem dX9_mean_49 : decode cX9_mean 49 = .ok (.getfield 11, 3) := by decide +kernel
theorem dX9_mean_52 : decode cX9_mean 52 = .ok (.iload_n 1, 1) := by decide +kernel
theorem dX9_mean_53 : decode cX9_mean 53 = .ok (.aaload, 1) := by decide +kernel
theorem dX9_mean_54 : decode cX9_mean 54 = .ok (.invokevirtual 134, 3) := by decide +kernel
theorem dX9_mean_57 : decode cX9_mean 57 = .ok (.iload_n 2, 1) := by decide +kernel
theorem dX9_mean_58 : decode cX9_mean 58 = .ok (.i2l, 1) := by decide +kernel
theorem dX9_mean_59 : decode cX9_mean 59 = .ok (.ldiv, 1) := by decide +kernel
theorem dX9_mean_60 : decode cX9_mean 60 = .ok (.l2i, 1) := by decide +kernel
theorem dX9_mean_61 : decode cX9_mean 61 = .ok (.putfield 85, 3) := by decide +kernel
theorem dX9_mean_64 : decode cX9_mean 64 = .ok (.iconst 1, 1) := by decide +kernel
theorem dX9_mean_65 : decode cX9_mean 65 = .ok (.ireturn, 1) := by decide +kernel
theorem dX9_text_0 : decode cX9_text 0 = .ok (.iload_n 1, 1) := by decide +kernel
theorem dX9_text_1 : decode cX9_text 1 = .ok (.invokestatic 138, 3) := by decide +kernel
theorem dX9_text_4 : decode cX9_text 4 = .ok (.ifCond .eq 9, 3) := by decide +kernel
theorem dX9_text_7 : decode cX9_text 7 = .ok (.iload_n 2, 1) := by decide +kernel
theorem dX9_text_8 : decode cX9_text 8 = .ok (.bipush 60, 2) := by decide +kernel
theorem dX9_text_10 : decode cX9_text 10 = .ok (.if_icmp .le 5, 3) := by decide +kernel
theorem dX9_text_13 : decode cX9_text 13 = .ok (.iconst (-1), 1) := by decide +kernel
theorem dX9_text_14 : decode cX9_text 14 = .ok (.ireturn, 1) := by decide +kernel
theorem dX9_text_15 : decode cX9_text 15 = .ok (.iload_n 2, 1) := by decide +kernel
theorem dX9_text_16 : decode cX9_text 16 = .ok (.ifCond .ge 9, 3) := by decide +kernel
theorem dX9_text_19 : decode cX9_text 19 = .ok (.aload_n 0, 1) := by decide +kernel
theorem dX9_text_20 : decode cX9_text 20 = .ok (.iconst 5, 1) := by decide +kernel
theorem dX9_text_21 : decode cX9_text 21 = .ok (.invokevirtual 104, 3) := by decide +kernel
theorem dX9_text_24 : decode cX9_text 24 = .ok (.ireturn, 1) := by decide +kernel
theorem dX9_text_25 : decode cX9_text 25 = .ok (.aload_n 0, 1) := by decide +kernel
theorem dX9_text_26 : decode cX9_text 26 = .ok (.getfield 17, 3) := by decide +kernel
theorem dX9_text_29 : decode cX9_text 29 = .ok (.iload_n 1, 1) := by decide +kernel
theorem dX9_text_30 : decode cX9_text 30 = .ok (.aaload, 1) := by decide +kernel
theorem dX9_text_31 : decode cX9_text 31 = .ok (.iload_n 2, 1) := by decide +kernel
theorem dX9_text_32 : decode cX9_text 32 = .ok (.invokevirtual 141, 3) := by decide +kernel
theorem dX9_text_35 : decode cX9_text 35 = .ok (.iload_n 2, 1) := by decide +kernel
theorem dX9_text_36 : decode cX9_text 36 = .ok (.ireturn, 1) := by decide +kernel
theorem dX9_put_0 : decode cX9_put 0 = .ok (.iload_n 1, 1) := by decide +kernel
theorem dX9_put_1 : decode cX9_put 1 = .ok (.invokestatic 138, 3) := by decide +kernel
theorem dX9_put_4 : decode cX9_put 4 = .ok (.ifCond .ne 5, 3) := by decide +kernel
theorem dX9_put_7 : decode cX9_put 7 = .ok (.iconst (-1), 1) := by decide +kernel
theorem dX9_put_8 : decode cX9_put 8 = .ok (.ireturn, 1) := by decide +kernel
theorem dX9_put_9 : decode cX9_put 9 = .ok (.aload_n 0, 1) := by decide +kernel
theorem dX9_put_10 : decode cX9_put 10 = .ok (.getfield 17, 3) := by decide +kernel
theorem dX9_put_13 : decode cX9_put 13 = .ok (.iload_n 1, 1) := by decide +kernel
theorem dX9_put_14 : decode cX9_put 14 = .ok (.aaload, 1) := by decide +kernel
theorem dX9_put_15 : decode cX9_put 15 = .ok (.invokevirtual 142, 3) := by decide +kernel
theorem dX9_put_18 : decode cX9_put 18 = .ok (.ifCond .ne 9, 3) := by decide +kernel
theorem dX9_put_21 : decode cX9_put 21 = .ok (.aload_n 0, 1) := by decide +kernel
theorem dX9_put_22 : decode cX9_put 22 = .ok (.iconst 1, 1) := by decide +kernel
theorem dX9_put_23 : decode cX9_put 23 = .ok (.invokevirtual 104, 3) := by decide +kernel
theorem dX9_put_26 : decode cX9_put 26 = .ok (.ireturn, 1) := by decide +kernel
theorem dX9_put_27 : decode cX9_put 27 = .ok (.iload_n 2, 1) := by decide +kernel
theorem dX9_put_28 : decode cX9_put 28 = .ok (.ifCond .lt 16, 3) := by decide +kernel
theorem dX9_put_31 : decode cX9_put 31 = .ok (.iload_n 2, 1) := by decide +kernel
theorem dX9_put_32 : decode cX9_put 32 = .ok (.aload_n 0, 1) := by decide +kernel
theorem dX9_put_33 : decode cX9_put 33 = .ok (.getfield 17, 3) := by decide +kernel
theorem dX9_put_36 : decode cX9_put 36 = .ok (.iload_n 1, 1) := by decide +kernel
theorem dX9_put_37 : decode cX9_put 37 = .ok (.aaload, 1) := by decide +kernel
theorem dX9_put_38 : decode cX9_put 38 = .ok (.getfield 143, 3) := by decide +kernel
theorem dX9_put_41 : decode cX9_put 41 = .ok (.if_icmp .lt 9, 3) := by decide +kernel
theorem dX9_put_44 : decode cX9_put 44 = .ok (.aload_n 0, 1) := by decide +kernel
theorem dX9_put_45 : decode cX9_put 45 = .ok (.iconst 2, 1) := by decide +kernel
theorem dX9_put_46 : decode cX9_put 46 = .ok (.invokevirtual 104, 3) := by decide +kernel
theorem dX9_put_49 : decode cX9_put 49 = .ok (.ireturn, 1) := by decide +kernel
theorem dX9_put_50 : decode cX9_put 50 = .ok (.aload_n 0, 1) := by decide +kernel
theorem dX9_put_51 : decode cX9_put 51 = .ok (.getfield 17, 3) := by decide +kernel
theorem dX9_put_54 : decode cX9_put 54 = .ok (.iload_n 1, 1) := by decide +kernel
theorem dX9_put_55 : decode cX9_put 55 = .ok (.aaload, 1) := by decide +kernel
theorem dX9_put_56 : decode cX9_put 56 = .ok (.getfield 144, 3) := by decide +kernel
theorem dX9_put_59 : decode cX9_put 59 = .ok (.iload_n 2, 1) := by decide +kernel
theorem dX9_put_60 : decode cX9_put 60 = .ok (.baload, 1) := by decide +kernel
theorem dX9_put_61 : decode cX9_put 61 = .ok (.istore 4, 2) := by decide +kernel
theorem dX9_put_63 : decode cX9_put 63 = .ok (.aload_n 0, 1) := by decide +kernel
theorem dX9_put_64 : decode cX9_put 64 = .ok (.getfield 17, 3) := by decide +kernel
theorem dX9_put_67 : decode cX9_put 67 = .ok (.iload_n 1, 1) := by decide +kernel
theorem dX9_put_68 : decode cX9_put 68 = .ok (.aaload, 1) := by decide +kernel
theorem dX9_put_69 : decode cX9_put 69 = .ok (.getfield 144, 3) := by decide +kernel
theorem dX9_put_72 : decode cX9_put 72 = .ok (.iload_n 2, 1) := by decide +kernel
theorem dX9_put_73 : decode cX9_put 73 = .ok (.iload_n 3, 1) := by decide +kernel
theorem dX9_put_74 : decode cX9_put 74 = .ok (.i2b, 1) := by decide +kernel
theorem dX9_put_75 : decode cX9_put 75 = .ok (.bastore, 1) := by decide +kernel
theorem dX9_put_76 : decode cX9_put 76 = .ok (.iload 4, 2) := by decide +kernel
theorem dX9_put_78 : decode cX9_put 78 = .ok (.sipush 1000, 3) := by decide +kernel
theorem dX9_put_81 : decode cX9_put 81 = .ok (.iadd, 1) := by decide +kernel
theorem dX9_put_82 : decode cX9_put 82 = .ok (.ireturn, 1) := by decide +kernel
theorem dX9_fault_0 : decode cX9_fault 0 = .ok (.iload_n 1, 1) := by decide +kernel
theorem dX9_fault_1 : decode cX9_fault 1 = .ok (.invokestatic 138, 3) := by decide +kernel
theorem dX9_fault_4 : decode cX9_fault 4 = .ok (.ifCond .ne 5, 3) := by decide +kernel
theorem dX9_fault_7 : decode cX9_fault 7 = .ok (.iconst (-1), 1) := by decide +kernel
theorem dX9_fault_8 : decode cX9_fault 8 = .ok (.ireturn, 1) := by decide +kernel
theorem dX9_fault_9 : decode cX9_fault 9 = .ok (.aload_n 0, 1) := by decide +kernel
theorem dX9_fault_10 : decode cX9_fault 10 = .ok (.getfield 17, 3) := by decide +kernel
theorem dX9_fault_13 : decode cX9_fault 13 = .ok (.iload_n 1, 1) := by decide +kernel
theorem dX9_fault_14 : decode cX9_fault 14 = .ok (.aaload, 1) := by decide +kernel
theorem dX9_fault_15 : decode cX9_fault 15 = .ok (.invokevirtual 142, 3) := by decide +kernel
theorem dX9_fault_18 : decode cX9_fault 18 = .ok (.ifCond .ne 9, 3) := by decide +kernel
theorem dX9_fault_21 : decode cX9_fault 21 = .ok (.aload_n 0, 1) := by decide +kernel
theorem dX9_fault_22 : decode cX9_fault 22 = .ok (.iconst 1, 1) := by decide +kernel
theorem dX9_fault_23 : decode cX9_fault 23 = .ok (.invokevirtual 104, 3) := by decide +kernel
theorem dX9_fault_26 : decode cX9_fault 26 = .ok (.ireturn, 1) := by decide +kernel
theorem dX9_fault_27 : decode cX9_fault 27 = .ok (.aload_n 0, 1) := by decide +kernel
theorem dX9_fault_28 : decode cX9_fault 28 = .ok (.getfield 24, 3) := by decide +kernel
theorem dX9_fault_31 : decode cX9_fault 31 = .ok (.aload_n 0, 1) := by decide +kernel
theorem dX9_fault_32 : decode cX9_fault 32 = .ok (.getfield 17, 3) := by decide +kernel
theorem dX9_fault_35 : decode cX9_fault 35 = .ok (.iload_n 1, 1) := by decide +kernel
theorem dX9_fault_36 : decode cX9_fault 36 = .ok (.aaload, 1) := by decide +kernel
theorem dX9_fault_37 : decode cX9_fault 37 = .ok (.invokevirtual 148, 3) := by decide +kernel
theorem dX9_fault_40 : decode cX9_fault 40 = .ok (.ireturn, 1) := by decide +kernel
theorem dX9_year_0 : decode cX9_year 0 = .ok (.iload_n 1, 1) := by decide +kernel
theorem dX9_year_1 : decode cX9_year 1 = .ok (.invokestatic 138, 3) := by decide +kernel
theorem dX9_year_4 : decode cX9_year 4 = .ok (.ifCond .ne 5, 3) := by decide +kernel
theorem dX9_year_7 : decode cX9_year 7 = .ok (.iconst (-1), 1) := by decide +kernel
theorem dX9_year_8 : decode cX9_year 8 = .ok (.ireturn, 1) := by decide +kernel
theorem dX9_year_9 : decode cX9_year 9 = .ok (.aload_n 0, 1) := by decide +kernel
theorem dX9_year_10 : decode cX9_year 10 = .ok (.getfield 17, 3) := by decide +kernel
theorem dX9_year_13 : decode cX9_year 13 = .ok (.iload_n 1, 1) := by decide +kernel
theorem dX9_year_14 : decode cX9_year 14 = .ok (.aaload, 1) := by decide +kernel
theorem dX9_year_15 : decode cX9_year 15 = .ok (.invokevirtual 142, 3) := by decide +kernel
theorem dX9_year_18 : decode cX9_year 18 = .ok (.ifCond .ne 9, 3) := by decide +kernel
theorem dX9_year_21 : decode cX9_year 21 = .ok (.aload_n 0, 1) := by decide +kernel
theorem dX9_year_22 : decode cX9_year 22 = .ok (.iconst 1, 1) := by decide +kernel
theorem dX9_year_23 : decode cX9_year 23 = .ok (.invokevirtual 104, 3) := by decide +kernel
theorem dX9_year_26 : decode cX9_year 26 = .ok (.ireturn, 1) := by decide +kernel
theorem dX9_year_27 : decode cX9_year 27 = .ok (.aload_n 0, 1) := by decide +kernel
theorem dX9_year_28 : decode cX9_year 28 = .ok (.getfield 24, 3) := by decide +kernel
theorem dX9_year_31 : decode cX9_year 31 = .ok (.aload_n 0, 1) := by decide +kernel
theorem dX9_year_32 : decode cX9_year 32 = .ok (.getfield 17, 3) := by decide +kernel
theorem dX9_year_35 : decode cX9_year 35 = .ok (.iload_n 1, 1) := by decide +kernel
theorem dX9_year_36 : decode cX9_year 36 = .ok (.aaload, 1) := by decide +kernel
theorem dX9_year_37 : decode cX9_year 37 = .ok (.invokevirtual 148, 3) := by decide +kernel
theorem dX9_year_40 : decode cX9_year 40 = .ok (.bipush (-9), 2) := by decide +kernel
theorem dX9_year_42 : decode cX9_year 42 = .ok (.if_icmp .eq 6, 3) := by decide +kernel
theorem dX9_year_45 : decode cX9_year 45 = .ok (.bipush (-4), 2) := by decide +kernel
theorem dX9_year_47 : decode cX9_year 47 = .ok (.ireturn, 1) := by decide +kernel
theorem dX9_year_48 : decode cX9_year 48 = .ok (.aload_n 0, 1) := by decide +kernel
theorem dX9_year_49 : decode cX9_year 49 = .ok (.getfield 31, 3) := by decide +kernel
theorem dX9_year_52 : decode cX9_year 52 = .ok (.aload_n 0, 1) := by decide +kernel
theorem dX9_year_53 : decode cX9_year 53 = .ok (.getfield 24, 3) := by decide +kernel
theorem dX9_year_56 : decode cX9_year 56 = .ok (.invokevirtual 152, 3) := by decide +kernel
theorem dX9_year_59 : decode cX9_year 59 = .ok (.aload_n 0, 1) := by decide +kernel
theorem dX9_year_60 : decode cX9_year 60 = .ok (.getfield 38, 3) := by decide +kernel
theorem dX9_year_63 : decode cX9_year 63 = .ok (.aload_n 0, 1) := by decide +kernel
theorem dX9_year_64 : decode cX9_year 64 = .ok (.getfield 24, 3) := by decide +kernel
theorem dX9_year_67 : decode cX9_year 67 = .ok (.invokevirtual 155, 3) := by decide +kernel
theorem dX9_year_70 : decode cX9_year 70 = .ok (.aload_n 0, 1) := by decide +kernel
theorem dX9_year_71 : decode cX9_year 71 = .ok (.getfield 45, 3) := by decide +kernel
theorem dX9_year_74 : decode cX9_year 74 = .ok (.iconst 0, 1) := by decide +kernel
theorem dX9_year_75 : decode cX9_year 75 = .ok (.putfield 97, 3) := by decide +kernel
theorem dX9_year_78 : decode cX9_year 78 = .ok (.iconst 0, 1) := by decide +kernel
theorem dX9_year_79 : decode cX9_year 79 = .ok (.istore_n 2, 1) := by decide +kernel
theorem dX9_year_80 : decode cX9_year 80 = .ok (.iload_n 2, 1) := by decide +kernel
theorem dX9_year_81 : decode cX9_year 81 = .ok (.iconst 3, 1) := by decide +kernel
theorem dX9_year_82 : decode cX9_year 82 = .ok (.if_icmp .ge 19, 3) := by decide +kernel
theorem dX9_year_85 : decode cX9_year 85 = .ok (.aload_n 0, 1) := by decide +kernel
theorem dX9_year_86 : decode cX9_year 86 = .ok (.getfield 49, 3) := by decide +kernel
theorem dX9_year_89 : decode cX9_year 89 = .ok (.iload_n 2, 1) := by decide +kernel
theorem dX9_year_90 : decode cX9_year 90 = .ok (.aaload, 1) := by decide +kernel
theorem dX9_year_91 : decode cX9_year 91 = .ok (.iconst (-1), 1) := by decide +kernel
theorem dX9_year_92 : decode cX9_year 92 = .ok (.putfield 97, 3) := by decide +kernel
theorem dX9_year_95 : decode cX9_year 95 = .ok (.iinc 2 1, 3) := by decide +kernel
theorem dX9_year_98 : decode cX9_year 98 = .ok (.goto (-18), 3) := by decide +kernel
theorem dX9_year_101 : decode cX9_year 101 = .ok (.aload_n 0, 1) := by decide +kernel
theorem dX9_year_102 : decode cX9_year 102 = .ok (.getfield 31, 3) := by decide +kernel
theorem dX9_year_105 : decode cX9_year 105 = .ok (.getfield 156, 3) := by decide +kernel
theorem dX9_year_108 : decode cX9_year 108 = .ok (.ireturn, 1) := by decide +kernel
theorem dX9_cape_0 : decode cX9_cape 0 = .ok (.aload_n 0, 1) := by decide +kernel
theorem dX9_cape_1 : decode cX9_cape 1 = .ok (.getfield 31, 3) := by decide +kernel
theorem dX9_cape_4 : decode cX9_cape 4 = .ok (.iload_n 1, 1) := by decide +kernel
theorem dX9_cape_5 : decode cX9_cape 5 = .ok (.invokevirtual 159, 3) := by decide +kernel
theorem dX9_cape_8 : decode cX9_cape 8 = .ok (.ifCond .eq 12, 3) := by decide +kernel
theorem dX9_cape_11 : decode cX9_cape 11 = .ok (.iload_n 2, 1) := by decide +kernel
theorem dX9_cape_12 : decode cX9_cape 12 = .ok (.ifCond .lt 8, 3) := by decide +kernel
theorem dX9_cape_15 : decode cX9_cape 15 = .ok (.iload_n 2, 1) := by decide +kernel
theorem dX9_cape_16 : decode cX9_cape 16 = .ok (.iconst 3, 1) := by decide +kernel
theorem dX9_cape_17 : decode cX9_cape 17 = .ok (.if_icmp .le 5, 3) := by decide +kernel
theorem dX9_cape_20 : decode cX9_cape 20 = .ok (.iconst (-1), 1) := by decide +kernel
theorem dX9_cape_21 : decode cX9_cape 21 = .ok (.ireturn, 1) := by decide +kernel
theorem dX9_cape_22 : decode cX9_cape 22 = .ok (.aload_n 0, 1) := by decide +kernel
theorem dX9_cape_23 : decode cX9_cape 23 = .ok (.aload_n 0, 1) := by decide +kernel
theorem dX9_cape_24 : decode cX9_cape 24 = .ok (.iload_n 1, 1) := by decide +kernel
theorem dX9_cape_25 : decode cX9_cape 25 = .ok (.iload_n 2, 1) := by decide +kernel
theorem dX9_cape_26 : decode cX9_cape 26 = .ok (.invokevirtual 162, 3) := by decide +kernel
theorem dX9_cape_29 : decode cX9_cape 29 = .ok (.putfield 85, 3) := by decide +kernel
theorem dX9_cape_32 : decode cX9_cape 32 = .ok (.iconst 1, 1) := by decide +kernel
theorem dX9_cape_33 : decode cX9_cape 33 = .ok (.ireturn, 1) := by decide +kernel
theorem dX9_valley_0 : decode cX9_valley 0 = .ok (.aload_n 0, 1) := by decide +kernel
theorem dX9_valley_1 : decode cX9_valley 1 = .ok (.getfield 31, 3) := by decide +kernel
theorem dX9_valley_4 : decode cX9_valley 4 = .ok (.iload_n 1, 1) := by decide +kernel
theorem dX9_valley_5 : decode cX9_valley 5 = .ok (.invokevirtual 165, 3) := by decide +kernel
theorem dX9_valley_8 : decode cX9_valley 8 = .ok (.ifCond .eq 12, 3) := by decide +kernel
theorem dX9_valley_11 : decode cX9_valley 11 = .ok (.iload_n 2, 1) := by decide +kernel
theorem dX9_valley_12 : decode cX9_valley 12 = .ok (.ifCond .lt 8, 3) := by decide +kernel
theorem dX9_valley_15 : decode cX9_valley 15 = .ok (.iload_n 2, 1) := by decide +kernel
theorem dX9_valley_16 : decode cX9_valley 16 = .ok (.iconst 4, 1) := by decide +kernel
theorem dX9_valley_17 : decode cX9_valley 17 = .ok (.if_icmp .le 5, 3) := by decide +kernel
theorem dX9_valley_20 : decode cX9_valley 20 = .ok (.iconst (-1), 1) := by decide +kernel
theorem dX9_valley_21 : decode cX9_valley 21 = .ok (.ireturn, 1) := by decide +kernel
theorem dX9_valley_22 : decode cX9_valley 22 = .ok (.aload_n 0, 1) := by decide +kernel
theorem dX9_valley_23 : decode cX9_valley 23 = .ok (.aload_n 0, 1) := by decide +kernel
theorem dX9_valley_24 : decode cX9_valley 24 = .ok (.iload_n 1, 1) := by decide +kernel
theorem dX9_valley_25 : decode cX9_valley 25 = .ok (.iload_n 2, 1) := by decide +kernel
theorem dX9_valley_26 : decode cX9_valley 26 = .ok (.invokevirtual 168, 3) := by decide +kernel
theorem dX9_valley_29 : decode cX9_valley 29 = .ok (.putfield 85, 3) := by decide +kernel
theorem dX9_valley_32 : decode cX9_valley 32 = .ok (.iconst 1, 1) := by decide +kernel
theorem dX9_valley_33 : decode cX9_valley 33 = .ok (.ireturn, 1) := by decide +kernel
theorem dX9_mark_0 : decode cX9_mark 0 = .ok (.aload_n 0, 1) := by decide +kernel
theorem dX9_mark_1 : decode cX9_mark 1 = .ok (.getfield 31, 3) := by decide +kernel
theorem dX9_mark_4 : decode cX9_mark 4 = .ok (.iload_n 1, 1) := by decide +kernel
theorem dX9_mark_5 : decode cX9_mark 5 = .ok (.invokevirtual 159, 3) := by decide +kernel
theorem dX9_mark_8 : decode cX9_mark 8 = .ok (.ifCond .eq 13, 3) := by decide +kernel
theorem dX9_mark_11 : decode cX9_mark 11 = .ok (.iload_n 2, 1) := by decide +kernel
theorem dX9_mark_12 : decode cX9_mark 12 = .ok (.ifCond .le 9, 3) := by decide +kernel
theorem dX9_mark_15 : decode cX9_mark 15 = .ok (.iload_n 2, 1) := by decide +kernel
theorem dX9_mark_16 : decode cX9_mark 16 = .ok (.bipush 6, 2) := by decide +kernel
theorem dX9_mark_18 : decode cX9_mark 18 = .ok (.if_icmp .lt 5, 3) := by decide +kernel
theorem dX9_mark_21 : decode cX9_mark 21 = .ok (.iconst (-1), 1) := by decide +kernel
theorem dX9_mark_22 : decode cX9_mark 22 = .ok (.ireturn, 1) := by decide +kernel
theorem dX9_mark_23 : decode cX9_mark 23 = .ok (.aload_n 0, 1) := by decide +kernel
theorem dX9_mark_24 : decode cX9_mark 24 = .ok (.getfield 31, 3) := by decide +kernel
theorem dX9_mark_27 : decode cX9_mark 27 = .ok (.getfield 171, 3) := by decide +kernel
theorem dX9_mark_30 : decode cX9_mark 30 = .ok (.iload_n 2, 1) := by decide +kernel
theorem dX9_mark_31 : decode cX9_mark 31 = .ok (.iaload, 1) := by decide +kernel
theorem dX9_mark_32 : decode cX9_mark 32 = .ok (.iload_n 1, 1) := by decide +kernel
theorem dX9_mark_33 : decode cX9_mark 33 = .ok (.ishr, 1) := by decide +kernel
theorem dX9_mark_34 : decode cX9_mark 34 = .ok (.iconst 1, 1) := by decide +kernel
theorem dX9_mark_35 : decode cX9_mark 35 = .ok (.iand, 1) := by decide +kernel
theorem dX9_mark_36 : decode cX9_mark 36 = .ok (.ifCond .ne 9, 3) := by decide +kernel
theorem dX9_mark_39 : decode cX9_mark 39 = .ok (.aload_n 0, 1) := by decide +kernel
theorem dX9_mark_40 : decode cX9_mark 40 = .ok (.iconst 3, 1) := by decide +kernel
theorem dX9_mark_41 : decode cX9_mark 41 = .ok (.invokevirtual 104, 3) := by decide +kernel
theorem dX9_mark_44 : decode cX9_mark 44 = .ok (.ireturn, 1) := by decide +kernel
theorem dX9_mark_45 : decode cX9_mark 45 = .ok (.aload_n 0, 1) := by decide +kernel
theorem dX9_mark_46 : decode cX9_mark 46 = .ok (.iload_n 1, 1) := by decide +kernel
theorem dX9_mark_47 : decode cX9_mark 47 = .ok (.iload_n 2, 1) := by decide +kernel
theorem dX9_mark_48 : decode cX9_mark 48 = .ok (.invokevirtual 174, 3) := by decide +kernel
theorem dX9_mark_51 : decode cX9_mark 51 = .ok (.ireturn, 1) := by decide +kernel
theorem dX9_price_0 : decode cX9_price 0 = .ok (.aload_n 0, 1) := by decide +kernel
theorem dX9_price_1 : decode cX9_price 1 = .ok (.getfield 31, 3) := by decide +kernel
theorem dX9_price_4 : decode cX9_price 4 = .ok (.iload_n 1, 1) := by decide +kernel
theorem dX9_price_5 : decode cX9_price 5 = .ok (.invokevirtual 165, 3) := by decide +kernel
theorem dX9_price_8 : decode cX9_price 8 = .ok (.ifCond .eq 13, 3) := by decide +kernel
theorem dX9_price_11 : decode cX9_price 11 = .ok (.iload_n 2, 1) := by decide +kernel
theorem dX9_price_12 : decode cX9_price 12 = .ok (.ifCond .lt 9, 3) := by decide +kernel
theorem dX9_price_15 : decode cX9_price 15 = .ok (.iload_n 2, 1) := by decide +kernel
theorem dX9_price_16 : decode cX9_price 16 = .ok (.bipush 9, 2) := by decide +kernel
theorem dX9_price_18 : decode cX9_price 18 = .ok (.if_icmp .le 5, 3) := by decide +kernel
theorem dX9_price_21 : decode cX9_price 21 = .ok (.iconst (-1), 1) := by decide +kernel
theorem dX9_price_22 : decode cX9_price 22 = .ok (.ireturn, 1) := by decide +kernel
theorem dX9_price_23 : decode cX9_price 23 = .ok (.aload_n 0, 1) := by decide +kernel
theorem dX9_price_24 : decode cX9_price 24 = .ok (.getfield 31, 3) := by decide +kernel
theorem dX9_price_27 : decode cX9_price 27 = .ok (.getfield 177, 3) := by decide +kernel
theorem dX9_price_30 : decode cX9_price 30 = .ok (.iload_n 1, 1) := by decide +kernel
theorem dX9_price_31 : decode cX9_price 31 = .ok (.iaload, 1) := by decide +kernel
theorem dX9_price_32 : decode cX9_price 32 = .ok (.istore_n 3, 1) := by decide +kernel
theorem dX9_price_33 : decode cX9_price 33 = .ok (.aload_n 0, 1) := by decide +kernel
theorem dX9_price_34 : decode cX9_price 34 = .ok (.getfield 31, 3) := by decide +kernel
theorem dX9_price_37 : decode cX9_price 37 = .ok (.getfield 177, 3) := by decide +kernel
theorem dX9_price_40 : decode cX9_price 40 = .ok (.iload_n 1, 1) := by decide +kernel
theorem dX9_price_41 : decode cX9_price 41 = .ok (.iload_n 2, 1) := by decide +kernel
theorem dX9_price_42 : decode cX9_price 42 = .ok (.iastore, 1) := by decide +kernel
theorem dX9_price_43 : decode cX9_price 43 = .ok (.iload_n 3, 1) := by decide +kernel
theorem dX9_price_44 : decode cX9_price 44 = .ok (.ireturn, 1) := by decide +kernel
theorem dX9_hold_0 : decode cX9_hold 0 = .ok (.aload_n 0, 1) := by decide +kernel
theorem dX9_hold_1 : decode cX9_hold 1 = .ok (.getfield 31, 3) := by decide +kernel
theorem dX9_hold_4 : decode cX9_hold 4 = .ok (.iload_n 1, 1) := by decide +kernel
theorem dX9_hold_5 : decode cX9_hold 5 = .ok (.invokevirtual 180, 3) := by decide +kernel
theorem dX9_hold_8 : decode cX9_hold 8 = .ok (.ifCond .ne 5, 3) := by decide +kernel
theorem dX9_hold_11 : decode cX9_hold 11 = .ok (.iconst (-1), 1) := by decide +kernel
theorem dX9_hold_12 : decode cX9_hold 12 = .ok (.ireturn, 1) := by decide +kernel
theorem dX9_hold_13 : decode cX9_hold 13 = .ok (.aload_n 0, 1) := by decide +kernel
theorem dX9_hold_14 : decode cX9_hold 14 = .ok (.getfield 31, 3) := by decide +kernel
theorem dX9_hold_17 : decode cX9_hold 17 = .ok (.getfield 156, 3) := by decide +kernel
theorem dX9_hold_20 : decode cX9_hold 20 = .ok (.ifCond .ne 6, 3) := by decide +kernel
theorem dX9_hold_23 : decode cX9_hold 23 = .ok (.bipush (-4), 2) := by decide +kernel
theorem dX9_hold_25 : decode cX9_hold 25 = .ok (.ireturn, 1) := by decide +kernel
theorem dX9_hold_26 : decode cX9_hold 26 = .ok (.aload_n 0, 1) := by decide +kernel
theorem dX9_hold_27 : decode cX9_hold 27 = .ok (.getfield 45, 3) := by decide +kernel
theorem dX9_hold_30 : decode cX9_hold 30 = .ok (.getfield 97, 3) := by decide +kernel
theorem dX9_hold_33 : decode cX9_hold 33 = .ok (.bipush 60, 2) := by decide +kernel
theorem dX9_hold_35 : decode cX9_hold 35 = .ok (.if_icmp .lt 6, 3) := by decide +kernel
theorem dX9_hold_38 : decode cX9_hold 38 = .ok (.bipush (-2), 2) := by decide +kernel
theorem dX9_hold_40 : decode cX9_hold 40 = .ok (.ireturn, 1) := by decide +kernel
theorem dX9_hold_41 : decode cX9_hold 41 = .ok (.aload_n 0, 1) := by decide +kernel
theorem dX9_hold_42 : decode cX9_hold 42 = .ok (.iload_n 1, 1) := by decide +kernel
theorem dX9_hold_43 : decode cX9_hold 43 = .ok (.invokevirtual 183, 3) := by decide +kernel
theorem dX9_hold_46 : decode cX9_hold 46 = .ok (.istore_n 2, 1) := by decide +kernel
theorem dX9_hold_47 : decode cX9_hold 47 = .ok (.aload_n 0, 1) := by decide +kernel
theorem dX9_hold_48 : decode cX9_hold 48 = .ok (.aload_n 0, 1) := by decide +kernel
theorem dX9_hold_49 : decode cX9_hold 49 = .ok (.getfield 38, 3) := by decide +kernel
theorem dX9_hold_52 : decode cX9_hold 52 = .ok (.getfield 186, 3) := by decide +kernel
theorem dX9_hold_55 : decode cX9_hold 55 = .ok (.putfield 85, 3) := by decide +kernel
theorem dX9_hold_58 : decode cX9_hold 58 = .ok (.iload_n 2, 1) := by decide +kernel
theorem dX9_hold_59 : decode cX9_hold 59 = .ok (.ireturn, 1) := by decide +kernel
theorem dX9_rope_0 : decode cX9_rope 0 = .ok (.aload_n 0, 1) := by decide +kernel
theorem dX9_rope_1 : decode cX9_rope 1 = .ok (.getfield 31, 3) := by decide +kernel
theorem dX9_rope_4 : decode cX9_rope 4 = .ok (.iload_n 1, 1) := by decide +kernel
theorem dX9_rope_5 : decode cX9_rope 5 = .ok (.invokevirtual 159, 3) := by decide +kernel
theorem dX9_rope_8 : decode cX9_rope 8 = .ok (.ifCond .eq 14, 3) := by decide +kernel
theorem dX9_rope_11 : decode cX9_rope 11 = .ok (.iload_n 2, 1) := by decide +kernel
theorem dX9_rope_12 : decode cX9_rope 12 = .ok (.iconst 1, 1) := by decide +kernel
theorem dX9_rope_13 : decode cX9_rope 13 = .ok (.if_icmp .lt 9, 3) := by decide +kernel
theorem dX9_rope_16 : decode cX9_rope 16 = .ok (.iload_n 2, 1) := by decide +kernel
theorem dX9_rope_17 : decode cX9_rope 17 = .ok (.bipush 9, 2) := by decide +kernel
theorem dX9_rope_19 : decode cX9_rope 19 = .ok (.if_icmp .le 5, 3) := by decide +kernel
theorem dX9_rope_22 : decode cX9_rope 22 = .ok (.iconst (-1), 1) := by decide +kernel
theorem dX9_rope_23 : decode cX9_rope 23 = .ok (.ireturn, 1) := by decide +kernel
theorem dX9_rope_24 : decode cX9_rope 24 = .ok (.aload_n 0, 1) := by decide +kernel
theorem dX9_rope_25 : decode cX9_rope 25 = .ok (.getfield 45, 3) := by decide +kernel
theorem dX9_rope_28 : decode cX9_rope 28 = .ok (.getfield 97, 3) := by decide +kernel
theorem dX9_rope_31 : decode cX9_rope 31 = .ok (.bipush 60, 2) := by decide +kernel
theorem dX9_rope_33 : decode cX9_rope 33 = .ok (.if_icmp .lt 6, 3) := by decide +kernel
theorem dX9_rope_36 : decode cX9_rope 36 = .ok (.bipush (-2), 2) := by decide +kernel
theorem dX9_rope_38 : decode cX9_rope 38 = .ok (.ireturn, 1) := by decide +kernel
theorem dX9_rope_39 : decode cX9_rope 39 = .ok (.aload_n 0, 1) := by decide +kernel
theorem dX9_rope_40 : decode cX9_rope 40 = .ok (.getfield 45, 3) := by decide +kernel
theorem dX9_rope_43 : decode cX9_rope 43 = .ok (.aload_n 0, 1) := by decide +kernel
theorem dX9_rope_44 : decode cX9_rope 44 = .ok (.getfield 38, 3) := by decide +kernel
theorem dX9_rope_47 : decode cX9_rope 47 = .ok (.invokevirtual 189, 3) := by decide +kernel
theorem dX9_rope_50 : decode cX9_rope 50 = .ok (.aload_n 0, 1) := by decide +kernel
theorem dX9_rope_51 : decode cX9_rope 51 = .ok (.getfield 38, 3) := by decide +kernel
theorem dX9_rope_54 : decode cX9_rope 54 = .ok (.getfield 193, 3) := by decide +kernel
theorem dX9_rope_57 : decode cX9_rope 57 = .ok (.iconst 2, 1) := by decide +kernel
theorem dX9_rope_58 : decode cX9_rope 58 = .ok (.iload_n 1, 1) := by decide +kernel
theorem dX9_rope_59 : decode cX9_rope 59 = .ok (.iadd, 1) := by decide +kernel
theorem dX9_rope_60 : decode cX9_rope 60 = .ok (.iaload, 1) := by decide +kernel
theorem dX9_rope_61 : decode cX9_rope 61 = .ok (.istore_n 3, 1) := by decide +kernel
theorem dX9_rope_62 : decode cX9_rope 62 = .ok (.aload_n 0, 1) := by decide +kernel
theorem dX9_rope_63 : decode cX9_rope 63 = .ok (.getfield 38, 3) := by decide +kernel
theorem dX9_rope_66 : decode cX9_rope 66 = .ok (.getfield 193, 3) := by decide +kernel
theorem dX9_rope_69 : decode cX9_rope 69 = .ok (.iconst 2, 1) := by decide +kernel
theorem dX9_rope_70 : decode cX9_rope 70 = .ok (.iload_n 1, 1) := by decide +kernel
theorem dX9_rope_71 : decode cX9_rope 71 = .ok (.iadd, 1) := by decide +kernel
theorem dX9_rope_72 : decode cX9_rope 72 = .ok (.iload_n 2, 1) := by decide +kernel
theorem dX9_rope_73 : decode cX9_rope 73 = .ok (.iastore, 1) := by decide +kernel
theorem dX9_rope_74 : decode cX9_rope 74 = .ok (.iload_n 3, 1) := by decide +kernel
theorem dX9_rope_75 : decode cX9_rope 75 = .ok (.ireturn, 1) := by decide +kernel
theorem dX9_rise_0 : decode cX9_rise 0 = .ok (.aload_n 0, 1) := by decide +kernel
theorem dX9_rise_1 : decode cX9_rise 1 = .ok (.getfield 31, 3) := by decide +kernel
theorem dX9_rise_4 : decode cX9_rise 4 = .ok (.getfield 156, 3) := by decide +kernel
theorem dX9_rise_7 : decode cX9_rise 7 = .ok (.ifCond .eq 13, 3) := by decide +kernel
theorem dX9_rise_10 : decode cX9_rise 10 = .ok (.aload_n 0, 1) := by decide +kernel
theorem dX9_rise_11 : decode cX9_rise 11 = .ok (.getfield 38, 3) := by decide +kernel
theorem dX9_rise_14 : decode cX9_rise 14 = .ok (.invokevirtual 196, 3) := by decide +kernel
theorem dX9_rise_17 : decode cX9_rise 17 = .ok (.ifCond .ne 6, 3) := by decide +kernel
theorem dX9_rise_20 : decode cX9_rise 20 = .ok (.bipush (-4), 2) := by decide +kernel
theorem dX9_rise_22 : decode cX9_rise 22 = .ok (.ireturn, 1) := by decide +kernel
theorem dX9_rise_23 : decode cX9_rise 23 = .ok (.aload_n 0, 1) := by decide +kernel
theorem dX9_rise_24 : decode cX9_rise 24 = .ok (.getfield 45, 3) := by decide +kernel
theorem dX9_rise_27 : decode cX9_rise 27 = .ok (.getfield 97, 3) := by decide +kernel
theorem dX9_rise_30 : decode cX9_rise 30 = .ok (.bipush 60, 2) := by decide +kernel
theorem dX9_rise_32 : decode cX9_rise 32 = .ok (.if_icmp .lt 6, 3) := by decide +kernel
theorem dX9_rise_35 : decode cX9_rise 35 = .ok (.bipush (-2), 2) := by decide +kernel
theorem dX9_rise_37 : decode cX9_rise 37 = .ok (.ireturn, 1) := by decide +kernel
theorem dX9_rise_38 : decode cX9_rise 38 = .ok (.aload_n 0, 1) := by decide +kernel
theorem dX9_rise_39 : decode cX9_rise 39 = .ok (.getfield 45, 3) := by decide +kernel
theorem dX9_rise_42 : decode cX9_rise 42 = .ok (.aload_n 0, 1) := by decide +kernel
theorem dX9_rise_43 : decode cX9_rise 43 = .ok (.getfield 38, 3) := by decide +kernel
theorem dX9_rise_46 : decode cX9_rise 46 = .ok (.invokevirtual 189, 3) := by decide +kernel
theorem dX9_rise_49 : decode cX9_rise 49 = .ok (.bipush 6, 2) := by decide +kernel
theorem dX9_rise_51 : decode cX9_rise 51 = .ok (.aload_n 0, 1) := by decide +kernel
theorem dX9_rise_52 : decode cX9_rise 52 = .ok (.getfield 38, 3) := by decide +kernel
theorem dX9_rise_55 : decode cX9_rise 55 = .ok (.getfield 193, 3) := by decide +kernel
theorem dX9_rise_58 : decode cX9_rise 58 = .ok (.iconst 1, 1) := by decide +kernel
theorem dX9_rise_59 : decode cX9_rise 59 = .ok (.iaload, 1) := by decide +kernel
theorem dX9_rise_60 : decode cX9_rise 60 = .ok (.bipush 6, 2) := by decide +kernel
theorem dX9_rise_62 : decode cX9_rise 62 = .ok (.idiv, 1) := by decide +kernel
theorem dX9_rise_63 : decode cX9_rise 63 = .ok (.bipush 7, 2) := by decide +kernel
theorem dX9_rise_65 : decode cX9_rise 65 = .ok (.invokestatic 199, 3) := by decide +kernel
theorem dX9_rise_68 : decode cX9_rise 68 = .ok (.imul, 1) := by decide +kernel
theorem dX9_rise_69 : decode cX9_rise 69 = .ok (.istore_n 1, 1) := by decide +kernel
theorem dX9_rise_70 : decode cX9_rise 70 = .ok (.aload_n 0, 1) := by decide +kernel
theorem dX9_rise_71 : decode cX9_rise 71 = .ok (.getfield 38, 3) := by decide +kernel
theorem dX9_rise_74 : decode cX9_rise 74 = .ok (.getfield 193, 3) := by decide +kernel
theorem dX9_rise_77 : decode cX9_rise 77 = .ok (.iconst 1, 1) := by decide +kernel
theorem dX9_rise_78 : decode cX9_rise 78 = .ok (.dup2, 1) := by decide +kernel
theorem dX9_rise_79 : decode cX9_rise 79 = .ok (.iaload, 1) := by decide +kernel
theorem dX9_rise_80 : decode cX9_rise 80 = .ok (.iload_n 1, 1) := by decide +kernel
theorem dX9_rise_81 : decode cX9_rise 81 = .ok (.isub, 1) := by decide +kernel
theorem dX9_rise_82 : decode cX9_rise 82 = .ok (.iastore, 1) := by decide +kernel
theorem dX9_rise_83 : decode cX9_rise 83 = .ok (.aload_n 0, 1) := by decide +kernel
theorem dX9_rise_84 : decode cX9_rise 84 = .ok (.getfield 38, 3) := by decide +kernel
theorem dX9_rise_87 : decode cX9_rise 87 = .ok (.getfield 193, 3) := by decide +kernel
theorem dX9_rise_90 : decode cX9_rise 90 = .ok (.iconst 0, 1) := by decide +kernel
theorem dX9_rise_91 : decode cX9_rise 91 = .ok (.iload_n 1, 1) := by decide +kernel
theorem dX9_rise_92 : decode cX9_rise 92 = .ok (.iastore, 1) := by decide +kernel
theorem dX9_rise_93 : decode cX9_rise 93 = .ok (.iload_n 1, 1) := by decide +kernel
theorem dX9_rise_94 : decode cX9_rise 94 = .ok (.ireturn, 1) := by decide +kernel
theorem dX9_undo_0 : decode cX9_undo 0 = .ok (.iload_n 1, 1) := by decide +kernel
theorem dX9_undo_1 : decode cX9_undo 1 = .ok (.ifCond .lt 14, 3) := by decide +kernel
theorem dX9_undo_4 : decode cX9_undo 4 = .ok (.iload_n 1, 1) := by decide +kernel
theorem dX9_undo_5 : decode cX9_undo 5 = .ok (.aload_n 0, 1) := by decide +kernel
theorem dX9_undo_6 : decode cX9_undo 6 = .ok (.getfield 45, 3) := by decide +kernel
theorem dX9_undo_9 : decode cX9_undo 9 = .ok (.getfield 97, 3) := by decide +kernel
theorem dX9_undo_12 : decode cX9_undo 12 = .ok (.if_icmp .le 5, 3) := by decide +kernel
theorem dX9_undo_15 : decode cX9_undo 15 = .ok (.iconst (-1), 1) := by decide +kernel
theorem dX9_undo_16 : decode cX9_undo 16 = .ok (.ireturn, 1) := by decide +kernel
theorem dX9_undo_17 : decode cX9_undo 17 = .ok (.aload_n 0, 1) := by decide +kernel
theorem dX9_undo_18 : decode cX9_undo 18 = .ok (.getfield 45, 3) := by decide +kernel
theorem dX9_undo_21 : decode cX9_undo 21 = .ok (.getfield 97, 3) := by decide +kernel
theorem dX9_undo_24 : decode cX9_undo 24 = .ok (.iload_n 1, 1) := by decide +kernel
theorem dX9_undo_25 : decode cX9_undo 25 = .ok (.isub, 1) := by decide +kernel
theorem dX9_undo_26 : decode cX9_undo 26 = .ok (.istore_n 2, 1) := by decide +kernel
theorem dX9_undo_27 : decode cX9_undo 27 = .ok (.iload_n 2, 1) := by decide +kernel
theorem dX9_undo_28 : decode cX9_undo 28 = .ok (.ifCond .le 15, 3) := by decide +kernel
theorem dX9_undo_31 : decode cX9_undo 31 = .ok (.aload_n 0, 1) := by decide +kernel
theorem dX9_undo_32 : decode cX9_undo 32 = .ok (.getfield 45, 3) := by decide +kernel
theorem dX9_undo_35 : decode cX9_undo 35 = .ok (.iload_n 1, 1) := by decide +kernel
theorem dX9_undo_36 : decode cX9_undo 36 = .ok (.aload_n 0, 1) := by decide +kernel
theorem dX9_undo_37 : decode cX9_undo 37 = .ok (.getfield 38, 3) := by decide +kernel
theorem dX9_undo_40 : decode cX9_undo 40 = .ok (.invokevirtual 204, 3) := by decide +kernel
theorem dX9_undo_43 : decode cX9_undo 43 = .ok (.iload_n 2, 1) := by decide +kernel
theorem dX9_undo_44 : decode cX9_undo 44 = .ok (.ireturn, 1) := by decide +kernel
theorem dX9_sun_0 : decode cX9_sun 0 = .ok (.aload_n 0, 1) := by decide +kernel
theorem dX9_sun_1 : decode cX9_sun 1 = .ok (.getfield 31, 3) := by decide +kernel
theorem dX9_sun_4 : decode cX9_sun 4 = .ok (.getfield 156, 3) := by decide +kernel
theorem dX9_sun_7 : decode cX9_sun 7 = .ok (.ifCond .ne 6, 3) := by decide +kernel
theorem dX9_sun_10 : decode cX9_sun 10 = .ok (.bipush (-4), 2) := by decide +kernel
theorem dX9_sun_12 : decode cX9_sun 12 = .ok (.ireturn, 1) := by decide +kernel
theorem dX9_sun_13 : decode cX9_sun 13 = .ok (.aload_n 0, 1) := by decide +kernel
theorem dX9_sun_14 : decode cX9_sun 14 = .ok (.aload_n 0, 1) := by decide +kernel
theorem dX9_sun_15 : decode cX9_sun 15 = .ok (.getfield 38, 3) := by decide +kernel
theorem dX9_sun_18 : decode cX9_sun 18 = .ok (.getfield 193, 3) := by decide +kernel
theorem dX9_sun_21 : decode cX9_sun 21 = .ok (.iconst 1, 1) := by decide +kernel
theorem dX9_sun_22 : decode cX9_sun 22 = .ok (.iaload, 1) := by decide +kernel
theorem dX9_sun_23 : decode cX9_sun 23 = .ok (.putfield 85, 3) := by decide +kernel
theorem dX9_sun_26 : decode cX9_sun 26 = .ok (.aload_n 0, 1) := by decide +kernel
theorem dX9_sun_27 : decode cX9_sun 27 = .ok (.getfield 38, 3) := by decide +kernel
theorem dX9_sun_30 : decode cX9_sun 30 = .ok (.getfield 193, 3) := by decide +kernel
theorem dX9_sun_33 : decode cX9_sun 33 = .ok (.iconst 0, 1) := by decide +kernel
theorem dX9_sun_34 : decode cX9_sun 34 = .ok (.iaload, 1) := by decide +kernel
theorem dX9_sun_35 : decode cX9_sun 35 = .ok (.ireturn, 1) := by decide +kernel
theorem dX9_gained_0 : decode cX9_gained 0 = .ok (.iconst 0, 1) := by decide +kernel
theorem dX9_gained_1 : decode cX9_gained 1 = .ok (.istore_n 1, 1) := by decide +kernel
theorem dX9_gained_2 : decode cX9_gained 2 = .ok (.bipush (-9), 2) := by decide +kernel
theorem dX9_gained_4 : decode cX9_gained 4 = .ok (.istore_n 2, 1) := by decide +kernel
theorem dX9_gained_5 : decode cX9_gained 5 = .ok (.iconst (-1), 1) := by decide +kernel
theorem dX9_gained_6 : decode cX9_gained 6 = .ok (.istore_n 3, 1) := by decide +kernel
theorem dX9_gained_7 : decode cX9_gained 7 = .ok (.iconst 0, 1) := by decide +kernel
theorem dX9_gained_8 : decode cX9_gained 8 = .ok (.istore 4, 2) := by decide +kernel
theorem dX9_gained_10 : decode cX9_gained 10 = .ok (.iload 4, 2) := by decide +kernel
theorem dX9_gained_12 : decode cX9_gained 12 = .ok (.aload_n 0, 1) := by decide +kernel
theorem dX9_gained_13 : decode cX9_gained 13 = .ok (.getfield 31, 3) := by decide +kernel
theorem dX9_gained_16 : decode cX9_gained 16 = .ok (.getfield 208, 3) := by decide +kernel
theorem dX9_gained_19 : decode cX9_gained 19 = .ok (.if_icmp .ge 41, 3) := by decide +kernel
theorem dX9_gained_22 : decode cX9_gained 22 = .ok (.aload_n 0, 1) := by decide +kernel
theorem dX9_gained_23 : decode cX9_gained 23 = .ok (.getfield 38, 3) := by decide +kernel
theorem dX9_gained_26 : decode cX9_gained 26 = .ok (.getfield 193, 3) := by decide +kernel
theorem dX9_gained_29 : decode cX9_gained 29 = .ok (.bipush 12, 2) := by decide +kernel
theorem dX9_gained_31 : decode cX9_gained 31 = .ok (.iload 4, 2) := by decide +kernel
theorem dX9_gained_33 : decode cX9_gained 33 = .ok (.iadd, 1) := by decide +kernel
theorem dX9_gained_34 : decode cX9_gained 34 = .ok (.iaload, 1) := by decide +kernel
theorem dX9_gained_35 : decode cX9_gained 35 = .ok (.istore 5, 2) := by decide +kernel
theorem dX9_gained_37 : decode cX9_gained 37 = .ok (.iload_n 1, 1) := by decide +kernel
theorem dX9_gained_38 : decode cX9_gained 38 = .ok (.iload 5, 2) := by decide +kernel
theorem dX9_gained_40 : decode cX9_gained 40 = .ok (.iadd, 1) := by decide +kernel
theorem dX9_gained_41 : decode cX9_gained 41 = .ok (.istore_n 1, 1) := by decide +kernel
theorem dX9_gained_42 : decode cX9_gained 42 = .ok (.iload 5, 2) := by decide +kernel
theorem dX9_gained_44 : decode cX9_gained 44 = .ok (.iload_n 3, 1) := by decide +kernel
theorem dX9_gained_45 : decode cX9_gained 45 = .ok (.if_icmp .le 9, 3) := by decide +kernel
theorem dX9_gained_48 : decode cX9_gained 48 = .ok (.iload 5, 2) := by decide +kernel
theorem dX9_gained_50 : decode cX9_gained 50 = .ok (.istore_n 3, 1) := by decide +kernel
theorem dX9_gained_51 : decode cX9_gained 51 = .ok (.iload 4, 2) := by decide +kernel
theorem dX9_gained_53 : decode cX9_gained 53 = .ok (.istore_n 2, 1) := by decide +kernel
theorem dX9_gained_54 : decode cX9_gained 54 = .ok (.iinc 4 1, 3) := by decide +kernel
theorem dX9_gained_57 : decode cX9_gained 57 = .ok (.goto (-47), 3) := by decide +kernel
theorem dX9_gained_60 : decode cX9_gained 60 = .ok (.aload_n 0, 1) := by decide +kernel
theorem dX9_gained_61 : decode cX9_gained 61 = .ok (.iload_n 2, 1) := by decide +kernel
theorem dX9_gained_62 : decode cX9_gained 62 = .ok (.putfield 85, 3) := by decide +kernel
theorem dX9_gained_65 : decode cX9_gained 65 = .ok (.iload_n 1, 1) := by decide +kernel
theorem dX9_gained_66 : decode cX9_gained 66 = .ok (.ireturn, 1) := by decide +kernel
theorem dX9_keep_0 : decode cX9_keep 0 = .ok (.iload_n 1, 1) := by decide +kernel
theorem dX9_keep_1 : decode cX9_keep 1 = .ok (.invokestatic 211, 3) := by decide +kernel
theorem dX9_keep_4 : decode cX9_keep 4 = .ok (.ifCond .ne 5, 3) := by decide +kernel
theorem dX9_keep_7 : decode cX9_keep 7 = .ok (.iconst (-1), 1) := by decide +kernel
theorem dX9_keep_8 : decode cX9_keep 8 = .ok (.ireturn, 1) := by decide +kernel
theorem dX9_keep_9 : decode cX9_keep 9 = .ok (.aload_n 0, 1) := by decide +kernel
theorem dX9_keep_10 : decode cX9_keep 10 = .ok (.getfield 31, 3) := by decide +kernel
theorem dX9_keep_13 : decode cX9_keep 13 = .ok (.getfield 156, 3) := by decide +kernel
theorem dX9_keep_16 : decode cX9_keep 16 = .ok (.ifCond .ne 6, 3) := by decide +kernel
theorem dX9_keep_19 : decode cX9_keep 19 = .ok (.bipush (-4), 2) := by decide +kernel
theorem dX9_keep_21 : decode cX9_keep 21 = .ok (.ireturn, 1) := by decide +kernel
theorem dX9_keep_22 : decode cX9_keep 22 = .ok (.aload_n 0, 1) := by decide +kernel
theorem dX9_keep_23 : decode cX9_keep 23 = .ok (.getfield 45, 3) := by decide +kernel
theorem dX9_keep_26 : decode cX9_keep 26 = .ok (.aload_n 0, 1) := by decide +kernel
theorem dX9_keep_27 : decode cX9_keep 27 = .ok (.getfield 38, 3) := by decide +kernel
theorem dX9_keep_30 : decode cX9_keep 30 = .ok (.invokevirtual 214, 3) := by decide +kernel
theorem dX9_keep_33 : decode cX9_keep 33 = .ok (.aload_n 0, 1) := by decide +kernel
theorem dX9_keep_34 : decode cX9_keep 34 = .ok (.getfield 49, 3) := by decide +kernel
theorem dX9_keep_37 : decode cX9_keep 37 = .ok (.iload_n 1, 1) := by decide +kernel
theorem dX9_keep_38 : decode cX9_keep 38 = .ok (.aaload, 1) := by decide +kernel
theorem dX9_keep_39 : decode cX9_keep 39 = .ok (.aload_n 0, 1) := by decide +kernel
theorem dX9_keep_40 : decode cX9_keep 40 = .ok (.getfield 45, 3) := by decide +kernel
theorem dX9_keep_43 : decode cX9_keep 43 = .ok (.invokevirtual 217, 3) := by decide +kernel
theorem dX9_keep_46 : decode cX9_keep 46 = .ok (.aload_n 0, 1) := by decide +kernel
theorem dX9_keep_47 : decode cX9_keep 47 = .ok (.getfield 31, 3) := by decide +kernel
theorem dX9_keep_50 : decode cX9_keep 50 = .ok (.getfield 177, 3) := by decide +kernel
theorem dX9_keep_53 : decode cX9_keep 53 = .ok (.iconst 0, 1) := by decide +kernel
theorem dX9_keep_54 : decode cX9_keep 54 = .ok (.aload_n 0, 1) := by decide +kernel
theorem dX9_keep_55 : decode cX9_keep 55 = .ok (.getfield 49, 3) := by decide +kernel
theorem dX9_keep_58 : decode cX9_keep 58 = .ok (.iload_n 1, 1) := by decide +kernel
theorem dX9_keep_59 : decode cX9_keep 59 = .ok (.aaload, 1) := by decide +kernel
theorem dX9_keep_60 : decode cX9_keep 60 = .ok (.getfield 221, 3) := by decide +kernel
theorem dX9_keep_63 : decode cX9_keep 63 = .ok (.iconst 0, 1) := by decide +kernel
theorem dX9_keep_64 : decode cX9_keep 64 = .ok (.iconst 4, 1) := by decide +kernel
theorem dX9_keep_65 : decode cX9_keep 65 = .ok (.invokestatic 128, 3) := by decide +kernel
theorem dX9_keep_68 : decode cX9_keep 68 = .ok (.aload_n 0, 1) := by decide +kernel
theorem dX9_keep_69 : decode cX9_keep 69 = .ok (.getfield 45, 3) := by decide +kernel
theorem dX9_keep_72 : decode cX9_keep 72 = .ok (.getfield 97, 3) := by decide +kernel
theorem dX9_keep_75 : decode cX9_keep 75 = .ok (.ireturn, 1) := by decide +kernel
theorem dX9_on_0 : decode cX9_on 0 = .ok (.iload_n 1, 1) := by decide +kernel
theorem dX9_on_1 : decode cX9_on 1 = .ok (.invokestatic 211, 3) := by decide +kernel
theorem dX9_on_4 : decode cX9_on 4 = .ok (.ifCond .ne 5, 3) := by decide +kernel
theorem dX9_on_7 : decode cX9_on 7 = .ok (.iconst (-1), 1) := by decide +kernel
theorem dX9_on_8 : decode cX9_on 8 = .ok (.ireturn, 1) := by decide +kernel
theorem dX9_on_9 : decode cX9_on 9 = .ok (.aload_n 0, 1) := by decide +kernel
theorem dX9_on_10 : decode cX9_on 10 = .ok (.getfield 49, 3) := by decide +kernel
theorem dX9_on_13 : decode cX9_on 13 = .ok (.iload_n 1, 1) := by decide +kernel
theorem dX9_on_14 : decode cX9_on 14 = .ok (.aaload, 1) := by decide +kernel
theorem dX9_on_15 : decode cX9_on 15 = .ok (.getfield 97, 3) := by decide +kernel
theorem dX9_on_18 : decode cX9_on 18 = .ok (.iconst (-1), 1) := by decide +kernel
theorem dX9_on_19 : decode cX9_on 19 = .ok (.if_icmp .ne 9, 3) := by decide +kernel
theorem dX9_on_22 : decode cX9_on 22 = .ok (.aload_n 0, 1) := by decide +kernel
theorem dX9_on_23 : decode cX9_on 23 = .ok (.iconst 1, 1) := by decide +kernel
theorem dX9_on_24 : decode cX9_on 24 = .ok (.invokevirtual 104, 3) := by decide +kernel
theorem dX9_on_27 : decode cX9_on 27 = .ok (.ireturn, 1) := by decide +kernel
theorem dX9_on_28 : decode cX9_on 28 = .ok (.aload_n 0, 1) := by decide +kernel
theorem dX9_on_29 : decode cX9_on 29 = .ok (.getfield 45, 3) := by decide +kernel
theorem dX9_on_32 : decode cX9_on 32 = .ok (.aload_n 0, 1) := by decide +kernel
theorem dX9_on_33 : decode cX9_on 33 = .ok (.getfield 49, 3) := by decide +kernel
theorem dX9_on_36 : decode cX9_on 36 = .ok (.iload_n 1, 1) := by decide +kernel
theorem dX9_on_37 : decode cX9_on 37 = .ok (.aaload, 1) := by decide +kernel
theorem dX9_on_38 : decode cX9_on 38 = .ok (.invokevirtual 217, 3) := by decide +kernel
theorem dX9_on_41 : decode cX9_on 41 = .ok (.aload_n 0, 1) := by decide +kernel
theorem dX9_on_42 : decode cX9_on 42 = .ok (.getfield 45, 3) := by decide +kernel
theorem dX9_on_45 : decode cX9_on 45 = .ok (.aload_n 0, 1) := by decide +kernel
theorem dX9_on_46 : decode cX9_on 46 = .ok (.getfield 45, 3) := by decide +kernel
theorem dX9_on_49 : decode cX9_on 49 = .ok (.getfield 97, 3) := by decide +kernel
theorem dX9_on_52 : decode cX9_on 52 = .ok (.aload_n 0, 1) := by decide +kernel
theorem dX9_on_53 : decode cX9_on 53 = .ok (.getfield 38, 3) := by decide +kernel
theorem dX9_on_56 : decode cX9_on 56 = .ok (.invokevirtual 204, 3) := by decide +kernel
theorem dX9_on_59 : decode cX9_on 59 = .ok (.aload_n 0, 1) := by decide +kernel
theorem dX9_on_60 : decode cX9_on 60 = .ok (.getfield 49, 3) := by decide +kernel
theorem dX9_on_63 : decode cX9_on 63 = .ok (.iload_n 1, 1) := by decide +kernel
theorem dX9_on_64 : decode cX9_on 64 = .ok (.aaload, 1) := by decide +kernel
theorem dX9_on_65 : decode cX9_on 65 = .ok (.getfield 221, 3) := by decide +kernel
theorem dX9_on_68 : decode cX9_on 68 = .ok (.iconst 0, 1) := by decide +kernel
theorem dX9_on_69 : decode cX9_on 69 = .ok (.aload_n 0, 1) := by decide +kernel
theorem dX9_on_70 : decode cX9_on 70 = .ok (.getfield 31, 3) := by decide +kernel
theorem dX9_on_73 : decode cX9_on 73 = .ok (.getfield 177, 3) := by decide +kernel
theorem dX9_on_76 : decode cX9_on 76 = .ok (.iconst 0, 1) := by decide +kernel
theorem dX9_on_77 : decode cX9_on 77 = .ok (.iconst 4, 1) := by decide +kernel
theorem dX9_on_78 : decode cX9_on 78 = .ok (.invokestatic 128, 3) := by decide +kernel
theorem dX9_on_81 : decode cX9_on 81 = .ok (.aload_n 0, 1) := by decide +kernel
theorem dX9_on_82 : decode cX9_on 82 = .ok (.getfield 45, 3) := by decide +kernel
theorem dX9_on_85 : decode cX9_on 85 = .ok (.getfield 97, 3) := by decide +kernel
theorem dX9_on_88 : decode cX9_on 88 = .ok (.ireturn, 1) := by decide +kernel
theorem dX9_run_0 : decode cX9_run 0 = .ok (.aload_n 0, 1) := by decide +kernel
theorem dX9_run_1 : decode cX9_run 1 = .ok (.iload_n 1, 1) := by decide +kernel
theorem dX9_run_2 : decode cX9_run 2 = .ok (.invokevirtual 222, 3) := by decide +kernel
theorem dX9_run_5 : decode cX9_run 5 = .ok (.istore_n 2, 1) := by decide +kernel
theorem dX9_run_6 : decode cX9_run 6 = .ok (.iload_n 2, 1) := by decide +kernel
theorem dX9_run_7 : decode cX9_run 7 = .ok (.ifCond .eq 5, 3) := by decide +kernel
theorem dX9_run_10 : decode cX9_run 10 = .ok (.iload_n 2, 1) := by decide +kernel
theorem dX9_run_11 : decode cX9_run 11 = .ok (.ireturn, 1) := by decide +kernel
theorem dX9_run_12 : decode cX9_run 12 = .ok (.aload_n 0, 1) := by decide +kernel
theorem dX9_run_13 : decode cX9_run 13 = .ok (.getfield 56, 3) := by decide +kernel
theorem dX9_run_16 : decode cX9_run 16 = .ok (.aload_n 0, 1) := by decide +kernel
theorem dX9_run_17 : decode cX9_run 17 = .ok (.getfield 31, 3) := by decide +kernel
theorem dX9_run_20 : decode cX9_run 20 = .ok (.aload_n 0, 1) := by decide +kernel
theorem dX9_run_21 : decode cX9_run 21 = .ok (.getfield 38, 3) := by decide +kernel
theorem dX9_run_24 : decode cX9_run 24 = .ok (.aload_n 0, 1) := by decide +kernel
theorem dX9_run_25 : decode cX9_run 25 = .ok (.getfield 11, 3) := by decide +kernel
theorem dX9_run_28 : decode cX9_run 28 = .ok (.iload_n 1, 1) := by decide +kernel
theorem dX9_run_29 : decode cX9_run 29 = .ok (.aaload, 1) := by decide +kernel
theorem dX9_run_30 : decode cX9_run 30 = .ok (.invokevirtual 225, 3) := by decide +kernel
theorem dX9_run_33 : decode cX9_run 33 = .ok (.istore_n 3, 1) := by decide +kernel
theorem dX9_run_34 : decode cX9_run 34 = .ok (.aload_n 0, 1) := by decide +kernel
theorem dX9_run_35 : decode cX9_run 35 = .ok (.aload_n 0, 1) := by decide +kernel
theorem dX9_run_36 : decode cX9_run 36 = .ok (.getfield 56, 3) := by decide +kernel
theorem dX9_run_39 : decode cX9_run 39 = .ok (.getfield 229, 3) := by decide +kernel
theorem dX9_run_42 : decode cX9_run 42 = .ok (.putfield 85, 3) := by decide +kernel
theorem dX9_run_45 : decode cX9_run 45 = .ok (.iload_n 3, 1) := by decide +kernel
theorem dX9_run_46 : decode cX9_run 46 = .ok (.ireturn, 1) := by decide +kernel
theorem dX9_burns_0 : decode cX9_burns 0 = .ok (.aload_n 0, 1) := by decide +kernel
theorem dX9_burns_1 : decode cX9_burns 1 = .ok (.iload_n 1, 1) := by decide +kernel
theorem dX9_burns_2 : decode cX9_burns 2 = .ok (.invokevirtual 222, 3) := by decide +kernel
theorem dX9_burns_5 : decode cX9_burns 5 = .ok (.istore_n 2, 1) := by decide +kernel
theorem dX9_burns_6 : decode cX9_burns 6 = .ok (.iload_n 2, 1) := by decide +kernel
theorem dX9_burns_7 : decode cX9_burns 7 = .ok (.ifCond .eq 5, 3) := by decide +kernel
theorem dX9_burns_10 : decode cX9_burns 10 = .ok (.iload_n 2, 1) := by decide +kernel
theorem dX9_burns_11 : decode cX9_burns 11 = .ok (.ireturn, 1) := by decide +kernel
theorem dX9_burns_12 : decode cX9_burns 12 = .ok (.aload_n 0, 1) := by decide +kernel
theorem dX9_burns_13 : decode cX9_burns 13 = .ok (.getfield 56, 3) := by decide +kernel
theorem dX9_burns_16 : decode cX9_burns 16 = .ok (.aload_n 0, 1) := by decide +kernel
theorem dX9_burns_17 : decode cX9_burns 17 = .ok (.getfield 31, 3) := by decide +kernel
theorem dX9_burns_20 : decode cX9_burns 20 = .ok (.aload_n 0, 1) := by decide +kernel
theorem dX9_burns_21 : decode cX9_burns 21 = .ok (.getfield 38, 3) := by decide +kernel
theorem dX9_burns_24 : decode cX9_burns 24 = .ok (.aload_n 0, 1) := by decide +kernel
theorem dX9_burns_25 : decode cX9_burns 25 = .ok (.getfield 11, 3) := by decide +kernel
theorem dX9_burns_28 : decode cX9_burns 28 = .ok (.iload_n 1, 1) := by decide +kernel
theorem dX9_burns_29 : decode cX9_burns 29 = .ok (.aaload, 1) := by decide +kernel
theorem dX9_burns_30 : decode cX9_burns 30 = .ok (.iconst 0, 1) := by decide +kernel
theorem dX9_burns_31 : decode cX9_burns 31 = .ok (.invokevirtual 232, 3) := by decide +kernel
theorem dX9_burns_34 : decode cX9_burns 34 = .ok (.istore_n 3, 1) := by decide +kernel
theorem dX9_burns_35 : decode cX9_burns 35 = .ok (.iload_n 3, 1) := by decide +kernel
theorem dX9_burns_36 : decode cX9_burns 36 = .ok (.bipush (-9), 2) := by decide +kernel
theorem dX9_burns_38 : decode cX9_burns 38 = .ok (.if_icmp .eq 14, 3) := by decide +kernel
theorem dX9_burns_41 : decode cX9_burns 41 = .ok (.aload_n 0, 1) := by decide +kernel
theorem dX9_burns_42 : decode cX9_burns 42 = .ok (.aload_n 0, 1) := by decide +kernel
theorem dX9_burns_43 : decode cX9_burns 43 = .ok (.getfield 56, 3) := by decide +kernel
theorem dX9_burns_46 : decode cX9_burns 46 = .ok (.getfield 229, 3) := by decide +kernel
theorem dX9_burns_49 : decode cX9_burns 49 = .ok (.putfield 85, 3) := by decide +kernel
theorem dX9_burns_52 : decode cX9_burns 52 = .ok (.iload_n 3, 1) := by decide +kernel
theorem dX9_burns_53 : decode cX9_burns 53 = .ok (.ireturn, 1) := by decide +kernel
theorem dX9_best_0 : decode cX9_best 0 = .ok (.iload_n 1, 1) := by decide +kernel
theorem dX9_best_1 : decode cX9_best 1 = .ok (.ifCond .lt 15, 3) := by decide +kernel
theorem dX9_best_4 : decode cX9_best 4 = .ok (.iload_n 1, 1) := by decide +kernel
theorem dX9_best_5 : decode cX9_best 5 = .ok (.iconst 3, 1) := by decide +kernel
theorem dX9_best_6 : decode cX9_best 6 = .ok (.if_icmp .gt 10, 3) := by decide +kernel
theorem dX9_best_9 : decode cX9_best 9 = .ok (.iload_n 2, 1) := by decide +kernel
theorem dX9_best_10 : decode cX9_best 10 = .ok (.invokestatic 100, 3) := by decide +kernel
theorem dX9_best_13 : decode cX9_best 13 = .ok (.ifCond .ne 5, 3) := by decide +kernel
theorem dX9_best_16 : decode cX9_best 16 = .ok (.iconst (-1), 1) := by decide +kernel
theorem dX9_best_17 : decode cX9_best 17 = .ok (.ireturn, 1) := by decide +kernel
theorem dX9_best_18 : decode cX9_best 18 = .ok (.aload_n 0, 1) := by decide +kernel
theorem dX9_best_19 : decode cX9_best 19 = .ok (.getfield 31, 3) := by decide +kernel
theorem dX9_best_22 : decode cX9_best 22 = .ok (.getfield 156, 3) := by decide +kernel
theorem dX9_best_25 : decode cX9_best 25 = .ok (.ifCond .ne 6, 3) := by decide +kernel
theorem dX9_best_28 : decode cX9_best 28 = .ok (.bipush (-4), 2) := by decide +kernel
theorem dX9_best_30 : decode cX9_best 30 = .ok (.ireturn, 1) := by decide +kernel
theorem dX9_best_31 : decode cX9_best 31 = .ok (.aload_n 0, 1) := by decide +kernel
theorem dX9_best_32 : decode cX9_best 32 = .ok (.getfield 63, 3) := by decide +kernel
theorem dX9_best_35 : decode cX9_best 35 = .ok (.aload_n 0, 1) := by decide +kernel
theorem dX9_best_36 : decode cX9_best 36 = .ok (.getfield 31, 3) := by decide +kernel
theorem dX9_best_39 : decode cX9_best 39 = .ok (.aload_n 0, 1) := by decide +kernel
theorem dX9_best_40 : decode cX9_best 40 = .ok (.getfield 38, 3) := by decide +kernel
theorem dX9_best_43 : decode cX9_best 43 = .ok (.iload_n 1, 1) := by decide +kernel
theorem dX9_best_44 : decode cX9_best 44 = .ok (.invokevirtual 236, 3) := by decide +kernel
theorem dX9_best_47 : decode cX9_best 47 = .ok (.istore_n 3, 1) := by decide +kernel
theorem dX9_best_48 : decode cX9_best 48 = .ok (.aload_n 0, 1) := by decide +kernel
theorem dX9_best_49 : decode cX9_best 49 = .ok (.getfield 11, 3) := by decide +kernel
theorem dX9_best_52 : decode cX9_best 52 = .ok (.iload_n 2, 1) := by decide +kernel
theorem dX9_best_53 : decode cX9_best 53 = .ok (.aaload, 1) := by decide +kernel
theorem dX9_best_54 : decode cX9_best 54 = .ok (.aload_n 0, 1) := by decide +kernel
theorem dX9_best_55 : decode cX9_best 55 = .ok (.getfield 63, 3) := by decide +kernel
theorem dX9_best_58 : decode cX9_best 58 = .ok (.getfield 240, 3) := by decide +kernel
theorem dX9_best_61 : decode cX9_best 61 = .ok (.iload_n 1, 1) := by decide +kernel
theorem dX9_best_62 : decode cX9_best 62 = .ok (.invokevirtual 243, 3) := by decide +kernel
theorem dX9_best_65 : decode cX9_best 65 = .ok (.iload_n 3, 1) := by decide +kernel
theorem dX9_best_66 : decode cX9_best 66 = .ok (.ireturn, 1) := by decide +kernel
theorem dX9_slowest_0 : decode cX9_slowest 0 = .ok (.iload_n 1, 1) := by decide +kernel
theorem dX9_slowest_1 : decode cX9_slowest 1 = .ok (.ifCond .lt 15, 3) := by decide +kernel
theorem dX9_slowest_4 : decode cX9_slowest 4 = .ok (.iload_n 1, 1) := by decide +kernel
theorem dX9_slowest_5 : decode cX9_slowest 5 = .ok (.iconst 3, 1) := by decide +kernel
theorem dX9_slowest_6 : decode cX9_slowest 6 = .ok (.if_icmp .gt 10, 3) := by decide +kernel
theorem dX9_slowest_9 : decode cX9_slowest 9 = .ok (.iload_n 2, 1) := by decide +kernel
theorem dX9_slowest_10 : decode cX9_slowest 10 = .ok (.invokestatic 100, 3) := by decide +kernel
theorem dX9_slowest_13 : decode cX9_slowest 13 = .ok (.ifCond .ne 5, 3) := by decide +kernel
theorem dX9_slowest_16 : decode cX9_slowest 16 = .ok (.iconst (-1), 1) := by decide +kernel
theorem dX9_slowest_17 : decode cX9_slowest 17 = .ok (.ireturn, 1) := by decide +kernel
theorem dX9_slowest_18 : decode cX9_slowest 18 = .ok (.aload_n 0, 1) := by decide +kernel
theorem dX9_slowest_19 : decode cX9_slowest 19 = .ok (.getfield 31, 3) := by decide +kernel
theorem dX9_slowest_22 : decode cX9_slowest 22 = .ok (.getfield 156, 3) := by decide +kernel
theorem dX9_slowest_25 : decode cX9_slowest 25 = .ok (.ifCond .ne 6, 3) := by decide +kernel
theorem dX9_slowest_28 : decode cX9_slowest 28 = .ok (.bipush (-4), 2) := by decide +kernel
theorem dX9_slowest_30 : decode cX9_slowest 30 = .ok (.ireturn, 1) := by decide +kernel
theorem dX9_slowest_31 : decode cX9_slowest 31 = .ok (.aload_n 0, 1) := by decide +kernel
theorem dX9_slowest_32 : decode cX9_slowest 32 = .ok (.getfield 63, 3) := by decide +kernel
theorem dX9_slowest_35 : decode cX9_slowest 35 = .ok (.aload_n 0, 1) := by decide +kernel
theorem dX9_slowest_36 : decode cX9_slowest 36 = .ok (.getfield 31, 3) := by decide +kernel
theorem dX9_slowest_39 : decode cX9_slowest 39 = .ok (.aload_n 0, 1) := by decide +kernel
theorem dX9_slowest_40 : decode cX9_slowest 40 = .ok (.getfield 38, 3) := by decide +kernel
theorem dX9_slowest_43 : decode cX9_slowest 43 = .ok (.iload_n 1, 1) := by decide +kernel
theorem dX9_slowest_44 : decode cX9_slowest 44 = .ok (.invokevirtual 246, 3) := by decide +kernel
theorem dX9_slowest_47 : decode cX9_slowest 47 = .ok (.istore_n 3, 1) := by decide +kernel
theorem dX9_slowest_48 : decode cX9_slowest 48 = .ok (.aload_n 0, 1) := by decide +kernel
theorem dX9_slowest_49 : decode cX9_slowest 49 = .ok (.getfield 11, 3) := by decide +kernel
theorem dX9_slowest_52 : decode cX9_slowest 52 = .ok (.iload_n 2, 1) := by decide +kernel
theorem dX9_slowest_53 : decode cX9_slowest 53 = .ok (.aaload, 1) := by decide +kernel
theorem dX9_slowest_54 : decode cX9_slowest 54 = .ok (.aload_n 0, 1) := by decide +kernel
theorem dX9_slowest_55 : decode cX9_slowest 55 = .ok (.getfield 63, 3) := by decide +kernel
theorem dX9_slowest_58 : decode cX9_slowest 58 = .ok (.getfield 240, 3) := by decide +kernel
theorem dX9_slowest_61 : decode cX9_slowest 61 = .ok (.iload_n 1, 1) := by decide +kernel
theorem dX9_slowest_62 : decode cX9_slowest 62 = .ok (.invokevirtual 243, 3) := by decide +kernel
theorem dX9_slowest_65 : decode cX9_slowest 65 = .ok (.iload_n 3, 1) := by decide +kernel
theorem dX9_slowest_66 : decode cX9_slowest 66 = .ok (.ireturn, 1) := by decide +kernel
theorem dX9_down_0 : decode cX9_down 0 = .ok (.aload_n 0, 1) := by decide +kernel
theorem dX9_down_1 : decode cX9_down 1 = .ok (.getfield 31, 3) := by decide +kernel
theorem dX9_down_4 : decode cX9_down 4 = .ok (.iload_n 1, 1) := by decide +kernel
theorem dX9_down_5 : decode cX9_down 5 = .ok (.invokevirtual 180, 3) := by decide +kernel
theorem dX9_down_8 : decode cX9_down 8 = .ok (.ifCond .ne 5, 3) := by decide +kernel
theorem dX9_down_11 : decode cX9_down 11 = .ok (.iconst (-1), 1) := by decide +kernel
theorem dX9_down_12 : decode cX9_down 12 = .ok (.ireturn, 1) := by decide +kernel
theorem dX9_down_13 : decode cX9_down 13 = .ok (.aload_n 0, 1) := by decide +kernel
theorem dX9_down_14 : decode cX9_down 14 = .ok (.getfield 31, 3) := by decide +kernel
theorem dX9_down_17 : decode cX9_down 17 = .ok (.getfield 156, 3) := by decide +kernel
theorem dX9_down_20 : decode cX9_down 20 = .ok (.ifCond .ne 8, 3) := by decide +kernel
theorem dX9_down_23 : decode cX9_down 23 = .ok (.bipush (-4), 2) := by decide +kernel
theorem dX9_down_25 : decode cX9_down 25 = .ok (.goto 19, 3) := by decide +kernel
theorem dX9_down_28 : decode cX9_down 28 = .ok (.aload_n 0, 1) := by decide +kernel
theorem dX9_down_29 : decode cX9_down 29 = .ok (.getfield 56, 3) := by decide +kernel
theorem dX9_down_32 : decode cX9_down 32 = .ok (.aload_n 0, 1) := by decide +kernel
theorem dX9_down_33 : decode cX9_down 33 = .ok (.getfield 31, 3) := by decide +kernel
theorem dX9_down_36 : decode cX9_down 36 = .ok (.aload_n 0, 1) := by decide +kernel
theorem dX9_down_37 : decode cX9_down 37 = .ok (.getfield 38, 3) := by decide +kernel
theorem dX9_down_40 : decode cX9_down 40 = .ok (.iload_n 1, 1) := by decide +kernel
theorem dX9_down_41 : decode cX9_down 41 = .ok (.invokevirtual 249, 3) := by decide +kernel
theorem dX9_down_44 : decode cX9_down 44 = .ok (.ireturn, 1) := by decide +kernel
theorem dX9_longest_0 : decode cX9_longest 0 = .ok (.aload_n 0, 1) := by decide +kernel
theorem dX9_longest_1 : decode cX9_longest 1 = .ok (.getfield 31, 3) := by decide +kernel
theorem dX9_longest_4 : decode cX9_longest 4 = .ok (.getfield 156, 3) := by decide +kernel
theorem dX9_longest_7 : decode cX9_longest 7 = .ok (.ifCond .ne 6, 3) := by decide +kernel
theorem dX9_longest_10 : decode cX9_longest 10 = .ok (.bipush (-4), 2) := by decide +kernel
theorem dX9_longest_12 : decode cX9_longest 12 = .ok (.ireturn, 1) := by decide +kernel
theorem dX9_longest_13 : decode cX9_longest 13 = .ok (.iconst 0, 1) := by decide +kernel
theorem dX9_longest_14 : decode cX9_longest 14 = .ok (.istore_n 1, 1) := by decide +kernel
theorem dX9_longest_15 : decode cX9_longest 15 = .ok (.iconst (-1), 1) := by decide +kernel
theorem dX9_longest_16 : decode cX9_longest 16 = .ok (.istore_n 2, 1) := by decide +kernel
theorem dX9_longest_17 : decode cX9_longest 17 = .ok (.iconst 0, 1) := by decide +kernel
theorem dX9_longest_18 : decode cX9_longest 18 = .ok (.istore_n 3, 1) := by decide +kernel
theorem dX9_longest_19 : decode cX9_longest 19 = .ok (.iload_n 3, 1) := by decide +kernel
theorem dX9_longest_20 : decode cX9_longest 20 = .ok (.aload_n 0, 1) := by decide +kernel
theorem dX9_longest_21 : decode cX9_longest 21 = .ok (.getfield 31, 3) := by decide +kernel
theorem dX9_longest_24 : decode cX9_longest 24 = .ok (.invokevirtual 252, 3) := by decide +kernel
theorem dX9_longest_27 : decode cX9_longest 27 = .ok (.if_icmp .gt 38, 3) := by decide +kernel
theorem dX9_longest_30 : decode cX9_longest 30 = .ok (.aload_n 0, 1) := by decide +kernel
theorem dX9_longest_31 : decode cX9_longest 31 = .ok (.getfield 56, 3) := by decide +kernel
theorem dX9_longest_34 : decode cX9_longest 34 = .ok (.aload_n 0, 1) := by decide +kernel
theorem dX9_longest_35 : decode cX9_longest 35 = .ok (.getfield 31, 3) := by decide +kernel
theorem dX9_longest_38 : decode cX9_longest 38 = .ok (.aload_n 0, 1) := by decide +kernel
theorem dX9_longest_39 : decode cX9_longest 39 = .ok (.getfield 38, 3) := by decide +kernel
theorem dX9_longest_42 : decode cX9_longest 42 = .ok (.iload_n 3, 1) := by decide +kernel
theorem dX9_longest_43 : decode cX9_longest 43 = .ok (.invokevirtual 249, 3) := by decide +kernel
theorem dX9_longest_46 : decode cX9_longest 46 = .ok (.istore 4, 2) := by decide +kernel
theorem dX9_longest_48 : decode cX9_longest 48 = .ok (.iload 4, 2) := by decide +kernel
theorem dX9_longest_50 : decode cX9_longest 50 = .ok (.iload_n 2, 1) := by decide +kernel
theorem dX9_longest_51 : decode cX9_longest 51 = .ok (.if_icmp .le 8, 3) := by decide +kernel
theorem dX9_longest_54 : decode cX9_longest 54 = .ok (.iload 4, 2) := by decide +kernel
theorem dX9_longest_56 : decode cX9_longest 56 = .ok (.istore_n 2, 1) := by decide +kernel
theorem dX9_longest_57 : decode cX9_longest 57 = .ok (.iload_n 3, 1) := by decide +kernel
theorem dX9_longest_58 : decode cX9_longest 58 = .ok (.istore_n 1, 1) := by decide +kernel
theorem dX9_longest_59 : decode cX9_longest 59 = .ok (.iinc 3 1, 3) := by decide +kernel
theorem dX9_longest_62 : decode cX9_longest 62 = .ok (.goto (-43), 3) := by decide +kernel
theorem dX9_longest_65 : decode cX9_longest 65 = .ok (.aload_n 0, 1) := by decide +kernel
theorem dX9_longest_66 : decode cX9_longest 66 = .ok (.iload_n 2, 1) := by decide +kernel
theorem dX9_longest_67 : decode cX9_longest 67 = .ok (.putfield 85, 3) := by decide +kernel
theorem dX9_longest_70 : decode cX9_longest 70 = .ok (.iload_n 1, 1) := by decide +kernel
theorem dX9_longest_71 : decode cX9_longest 71 = .ok (.ireturn, 1) := by decide +kernel
theorem dX9_ropes_0 : decode cX9_ropes 0 = .ok (.aload_n 0, 1) := by decide +kernel
theorem dX9_ropes_1 : decode cX9_ropes 1 = .ok (.iload_n 1, 1) := by decide +kernel
theorem dX9_ropes_2 : decode cX9_ropes 2 = .ok (.invokevirtual 222, 3) := by decide +kernel
theorem dX9_ropes_5 : decode cX9_ropes 5 = .ok (.istore_n 2, 1) := by decide +kernel
theorem dX9_ropes_6 : decode cX9_ropes 6 = .ok (.iload_n 2, 1) := by decide +kernel
theorem dX9_ropes_7 : decode cX9_ropes 7 = .ok (.ifCond .eq 5, 3) := by decide +kernel
theorem dX9_ropes_10 : decode cX9_ropes 10 = .ok (.iload_n 2, 1) := by decide +kernel
theorem dX9_ropes_11 : decode cX9_ropes 11 = .ok (.ireturn, 1) := by decide +kernel
theorem dX9_ropes_12 : decode cX9_ropes 12 = .ok (.aload_n 0, 1) := by decide +kernel
theorem dX9_ropes_13 : decode cX9_ropes 13 = .ok (.getfield 56, 3) := by decide +kernel
theorem dX9_ropes_16 : decode cX9_ropes 16 = .ok (.aload_n 0, 1) := by decide +kernel
theorem dX9_ropes_17 : decode cX9_ropes 17 = .ok (.getfield 31, 3) := by decide +kernel
theorem dX9_ropes_20 : decode cX9_ropes 20 = .ok (.aload_n 0, 1) := by decide +kernel
theorem dX9_ropes_21 : decode cX9_ropes 21 = .ok (.getfield 38, 3) := by decide +kernel
theorem dX9_ropes_24 : decode cX9_ropes 24 = .ok (.aload_n 0, 1) := by decide +kernel
theorem dX9_ropes_25 : decode cX9_ropes 25 = .ok (.getfield 11, 3) := by decide +kernel
theorem dX9_ropes_28 : decode cX9_ropes 28 = .ok (.iload_n 1, 1) := by decide +kernel
theorem dX9_ropes_29 : decode cX9_ropes 29 = .ok (.aaload, 1) := by decide +kernel
theorem dX9_ropes_30 : decode cX9_ropes 30 = .ok (.invokevirtual 256, 3) := by decide +kernel
theorem dX9_ropes_33 : decode cX9_ropes 33 = .ok (.istore_n 3, 1) := by decide +kernel
theorem dX9_ropes_34 : decode cX9_ropes 34 = .ok (.iload_n 3, 1) := by decide +kernel
theorem dX9_ropes_35 : decode cX9_ropes 35 = .ok (.bipush (-9), 2) := by decide +kernel
theorem dX9_ropes_37 : decode cX9_ropes 37 = .ok (.if_icmp .eq 14, 3) := by decide +kernel
theorem dX9_ropes_40 : decode cX9_ropes 40 = .ok (.aload_n 0, 1) := by decide +kernel
theorem dX9_ropes_41 : decode cX9_ropes 41 = .ok (.aload_n 0, 1) := by decide +kernel
theorem dX9_ropes_42 : decode cX9_ropes 42 = .ok (.getfield 56, 3) := by decide +kernel
theorem dX9_ropes_45 : decode cX9_ropes 45 = .ok (.getfield 229, 3) := by decide +kernel
theorem dX9_ropes_48 : decode cX9_ropes 48 = .ok (.putfield 85, 3) := by decide +kernel
theorem dX9_ropes_51 : decode cX9_ropes 51 = .ok (.iload_n 3, 1) := by decide +kernel
theorem dX9_ropes_52 : decode cX9_ropes 52 = .ok (.ireturn, 1) := by decide +kernel
theorem dX9_loose_0 : decode cX9_loose 0 = .ok (.aload_n 0, 1) := by decide +kernel
theorem dX9_loose_1 : decode cX9_loose 1 = .ok (.getfield 31, 3) := by decide +kernel
theorem dX9_loose_4 : decode cX9_loose 4 = .ok (.iload_n 1, 1) := by decide +kernel
theorem dX9_loose_5 : decode cX9_loose 5 = .ok (.invokevirtual 180, 3) := by decide +kernel
theorem dX9_loose_8 : decode cX9_loose 8 = .ok (.ifCond .eq 10, 3) := by decide +kernel
theorem dX9_loose_11 : decode cX9_loose 11 = .ok (.iload_n 2, 1) := by decide +kernel
theorem dX9_loose_12 : decode cX9_loose 12 = .ok (.invokestatic 100, 3) := by decide +kernel
theorem dX9_loose_15 : decode cX9_loose 15 = .ok (.ifCond .ne 5, 3) := by decide +kernel
theorem dX9_loose_18 : decode cX9_loose 18 = .ok (.iconst (-1), 1) := by decide +kernel
theorem dX9_loose_19 : decode cX9_loose 19 = .ok (.ireturn, 1) := by decide +kernel
theorem dX9_loose_20 : decode cX9_loose 20 = .ok (.iload_n 1, 1) := by decide +kernel
theorem dX9_loose_21 : decode cX9_loose 21 = .ok (.aload_n 0, 1) := by decide +kernel
theorem dX9_loose_22 : decode cX9_loose 22 = .ok (.getfield 31, 3) := by decide +kernel
theorem dX9_loose_25 : decode cX9_loose 25 = .ok (.getfield 171, 3) := by decide +kernel
theorem dX9_loose_28 : decode cX9_loose 28 = .ok (.iconst 2, 1) := by decide +kernel
theorem dX9_loose_29 : decode cX9_loose 29 = .ok (.iaload, 1) := by decide +kernel
theorem dX9_loose_30 : decode cX9_loose 30 = .ok (.iand, 1) := by decide +kernel
theorem dX9_loose_31 : decode cX9_loose 31 = .ok (.istore_n 3, 1) := by decide +kernel
theorem dX9_loose_32 : decode cX9_loose 32 = .ok (.aload_n 0, 1) := by decide +kernel
theorem dX9_loose_33 : decode cX9_loose 33 = .ok (.iconst 0, 1) := by decide +kernel
theorem dX9_loose_34 : decode cX9_loose 34 = .ok (.iload_n 1, 1) := by decide +kernel
theorem dX9_loose_35 : decode cX9_loose 35 = .ok (.iload_n 3, 1) := by decide +kernel
theorem dX9_loose_36 : decode cX9_loose 36 = .ok (.iconst (-1), 1) := by decide +kernel
theorem dX9_loose_37 : decode cX9_loose 37 = .ok (.ixor, 1) := by decide +kernel
theorem dX9_loose_38 : decode cX9_loose 38 = .ok (.iand, 1) := by decide +kernel
theorem dX9_loose_39 : decode cX9_loose 39 = .ok (.invokevirtual 259, 3) := by decide +kernel
theorem dX9_loose_42 : decode cX9_loose 42 = .ok (.istore 4, 2) := by decide +kernel
theorem dX9_loose_44 : decode cX9_loose 44 = .ok (.aload_n 0, 1) := by decide +kernel
theorem dX9_loose_45 : decode cX9_loose 45 = .ok (.iload 4, 2) := by decide +kernel
theorem dX9_loose_47 : decode cX9_loose 47 = .ok (.iload_n 3, 1) := by decide +kernel
theorem dX9_loose_48 : decode cX9_loose 48 = .ok (.invokevirtual 259, 3) := by decide +kernel
theorem dX9_loose_51 : decode cX9_loose 51 = .ok (.istore 4, 2) := by decide +kernel
theorem dX9_loose_53 : decode cX9_loose 53 = .ok (.iconst 0, 1) := by decide +kernel
theorem dX9_loose_54 : decode cX9_loose 54 = .ok (.istore 5, 2) := by decide +kernel
theorem dX9_loose_56 : decode cX9_loose 56 = .ok (.iconst 0, 1) := by decide +kernel
theorem dX9_loose_57 : decode cX9_loose 57 = .ok (.istore 6, 2) := by decide +kernel
theorem dX9_loose_59 : decode cX9_loose 59 = .ok (.iload 6, 2) := by decide +kernel
theorem dX9_loose_61 : decode cX9_loose 61 = .ok (.iload 4, 2) := by decide +kernel
theorem dX9_loose_63 : decode cX9_loose 63 = .ok (.if_icmp .ge 38, 3) := by decide +kernel
theorem dX9_loose_66 : decode cX9_loose 66 = .ok (.iload 5, 2) := by decide +kernel
theorem dX9_loose_68 : decode cX9_loose 68 = .ok (.aload_n 0, 1) := by decide +kernel
theorem dX9_loose_69 : decode cX9_loose 69 = .ok (.getfield 31, 3) := by decide +kernel
theorem dX9_loose_72 : decode cX9_loose 72 = .ok (.iconst 1, 1) := by decide +kernel
theorem dX9_loose_73 : decode cX9_loose 73 = .ok (.aload_n 0, 1) := by decide +kernel
theorem dX9_loose_74 : decode cX9_loose 74 = .ok (.getfield 74, 3) := by decide +kernel
theorem dX9_loose_77 : decode cX9_loose 77 = .ok (.iload 6, 2) := by decide +kernel
theorem dX9_loose_79 : decode cX9_loose 79 = .ok (.iaload, 1) := by decide +kernel
theorem dX9_loose_80 : decode cX9_loose 80 = .ok (.ishl, 1) := by decide +kernel
theorem dX9_loose_81 : decode cX9_loose 81 = .ok (.invokevirtual 262, 3) := by decide +kernel
theorem dX9_loose_84 : decode cX9_loose 84 = .ok (.iload 4, 2) := by decide +kernel
theorem dX9_loose_86 : decode cX9_loose 86 = .ok (.iconst 1, 1) := by decide +kernel
theorem dX9_loose_87 : decode cX9_loose 87 = .ok (.isub, 1) := by decide +kernel
theorem dX9_loose_88 : decode cX9_loose 88 = .ok (.iload 6, 2) := by decide +kernel
theorem dX9_loose_90 : decode cX9_loose 90 = .ok (.isub, 1) := by decide +kernel
theorem dX9_loose_91 : decode cX9_loose 91 = .ok (.imul, 1) := by decide +kernel
theorem dX9_loose_92 : decode cX9_loose 92 = .ok (.iadd, 1) := by decide +kernel
theorem dX9_loose_93 : decode cX9_loose 93 = .ok (.istore 5, 2) := by decide +kernel
theorem dX9_loose_95 : decode cX9_loose 95 = .ok (.iinc 6 1, 3) := by decide +kernel
theorem dX9_loose_98 : decode cX9_loose 98 = .ok (.goto (-39), 3) := by decide +kernel
theorem dX9_loose_101 : decode cX9_loose 101 = .ok (.aload_n 0, 1) := by decide +kernel
theorem dX9_loose_102 : decode cX9_loose 102 = .ok (.getfield 11, 3) := by decide +kernel
theorem dX9_loose_105 : decode cX9_loose 105 = .ok (.iload_n 2, 1) := by decide +kernel
theorem dX9_loose_106 : decode cX9_loose 106 = .ok (.aaload, 1) := by decide +kernel
theorem dX9_loose_107 : decode cX9_loose 107 = .ok (.aload_n 0, 1) := by decide +kernel
theorem dX9_loose_108 : decode cX9_loose 108 = .ok (.getfield 74, 3) := by decide +kernel
theorem dX9_loose_111 : decode cX9_loose 111 = .ok (.iload 4, 2) := by decide +kernel
theorem dX9_loose_113 : decode cX9_loose 113 = .ok (.invokevirtual 243, 3) := by decide +kernel
theorem dX9_loose_116 : decode cX9_loose 116 = .ok (.iload 5, 2) := by decide +kernel
theorem dX9_loose_118 : decode cX9_loose 118 = .ok (.ireturn, 1) := by decide +kernel
theorem dX9_votes_0 : decode cX9_votes 0 = .ok (.aload_n 0, 1) := by decide +kernel
theorem dX9_votes_1 : decode cX9_votes 1 = .ok (.getfield 31, 3) := by decide +kernel
theorem dX9_votes_4 : decode cX9_votes 4 = .ok (.iload_n 1, 1) := by decide +kernel
theorem dX9_votes_5 : decode cX9_votes 5 = .ok (.invokevirtual 180, 3) := by decide +kernel
theorem dX9_votes_8 : decode cX9_votes 8 = .ok (.ifCond .eq 14, 3) := by decide +kernel
theorem dX9_votes_11 : decode cX9_votes 11 = .ok (.aload_n 0, 1) := by decide +kernel
theorem dX9_votes_12 : decode cX9_votes 12 = .ok (.getfield 31, 3) := by decide +kernel
theorem dX9_votes_15 : decode cX9_votes 15 = .ok (.iload_n 2, 1) := by decide +kernel
theorem dX9_votes_16 : decode cX9_votes 16 = .ok (.invokevirtual 180, 3) := by decide +kernel
theorem dX9_votes_19 : decode cX9_votes 19 = .ok (.ifCond .ne 5, 3) := by decide +kernel
theorem dX9_votes_22 : decode cX9_votes 22 = .ok (.iconst (-1), 1) := by decide +kernel
theorem dX9_votes_23 : decode cX9_votes 23 = .ok (.ireturn, 1) := by decide +kernel
theorem dX9_votes_24 : decode cX9_votes 24 = .ok (.aload_n 0, 1) := by decide +kernel
theorem dX9_votes_25 : decode cX9_votes 25 = .ok (.getfield 31, 3) := by decide +kernel
theorem dX9_votes_28 : decode cX9_votes 28 = .ok (.getfield 156, 3) := by decide +kernel
theorem dX9_votes_31 : decode cX9_votes 31 = .ok (.ifCond .ne 6, 3) := by decide +kernel
theorem dX9_votes_34 : decode cX9_votes 34 = .ok (.bipush (-4), 2) := by decide +kernel
theorem dX9_votes_36 : decode cX9_votes 36 = .ok (.ireturn, 1) := by decide +kernel
theorem dX9_votes_37 : decode cX9_votes 37 = .ok (.aload_n 0, 1) := by decide +kernel
theorem dX9_votes_38 : decode cX9_votes 38 = .ok (.getfield 70, 3) := by decide +kernel
theorem dX9_votes_41 : decode cX9_votes 41 = .ok (.aload_n 0, 1) := by decide +kernel
theorem dX9_votes_42 : decode cX9_votes 42 = .ok (.getfield 31, 3) := by decide +kernel
theorem dX9_votes_45 : decode cX9_votes 45 = .ok (.aload_n 0, 1) := by decide +kernel
theorem dX9_votes_46 : decode cX9_votes 46 = .ok (.getfield 38, 3) := by decide +kernel
theorem dX9_votes_49 : decode cX9_votes 49 = .ok (.invokevirtual 265, 3) := by decide +kernel
theorem dX9_votes_52 : decode cX9_votes 52 = .ok (.aload_n 0, 1) := by decide +kernel
theorem dX9_votes_53 : decode cX9_votes 53 = .ok (.aload_n 0, 1) := by decide +kernel
theorem dX9_votes_54 : decode cX9_votes 54 = .ok (.getfield 70, 3) := by decide +kernel
theorem dX9_votes_57 : decode cX9_votes 57 = .ok (.aload_n 0, 1) := by decide +kernel
theorem dX9_votes_58 : decode cX9_votes 58 = .ok (.getfield 31, 3) := by decide +kernel
theorem dX9_votes_61 : decode cX9_votes 61 = .ok (.iload_n 1, 1) := by decide +kernel
theorem dX9_votes_62 : decode cX9_votes 62 = .ok (.iload_n 2, 1) := by decide +kernel
theorem dX9_votes_63 : decode cX9_votes 63 = .ok (.invokevirtual 269, 3) := by decide +kernel
theorem dX9_votes_66 : decode cX9_votes 66 = .ok (.putfield 85, 3) := by decide +kernel
theorem dX9_votes_69 : decode cX9_votes 69 = .ok (.aload_n 0, 1) := by decide +kernel
theorem dX9_votes_70 : decode cX9_votes 70 = .ok (.getfield 85, 3) := by decide +kernel
theorem dX9_votes_73 : decode cX9_votes 73 = .ok (.invokestatic 273, 3) := by decide +kernel
theorem dX9_votes_76 : decode cX9_votes 76 = .ok (.ireturn, 1) := by decide +kernel
theorem dX9_choice_0 : decode cX9_choice 0 = .ok (.aload_n 0, 1) := by decide +kernel
theorem dX9_choice_1 : decode cX9_choice 1 = .ok (.getfield 31, 3) := by decide +kernel
theorem dX9_choice_4 : decode cX9_choice 4 = .ok (.getfield 156, 3) := by decide +kernel
theorem dX9_choice_7 : decode cX9_choice 7 = .ok (.ifCond .ne 6, 3) := by decide +kernel
theorem dX9_choice_10 : decode cX9_choice 10 = .ok (.bipush (-4), 2) := by decide +kernel
theorem dX9_choice_12 : decode cX9_choice 12 = .ok (.ireturn, 1) := by decide +kernel
theorem dX9_choice_13 : decode cX9_choice 13 = .ok (.aload_n 0, 1) := by decide +kernel
theorem dX9_choice_14 : decode cX9_choice 14 = .ok (.getfield 70, 3) := by decide +kernel
theorem dX9_choice_17 : decode cX9_choice 17 = .ok (.aload_n 0, 1) := by decide +kernel
theorem dX9_choice_18 : decode cX9_choice 18 = .ok (.getfield 31, 3) := by decide +kernel
theorem dX9_choice_21 : decode cX9_choice 21 = .ok (.aload_n 0, 1) := by decide +kernel
theorem dX9_choice_22 : decode cX9_choice 22 = .ok (.getfield 38, 3) := by decide +kernel
theorem dX9_choice_25 : decode cX9_choice 25 = .ok (.invokevirtual 265, 3) := by decide +kernel
theorem dX9_choice_28 : decode cX9_choice 28 = .ok (.aload_n 0, 1) := by decide +kernel
theorem dX9_choice_29 : decode cX9_choice 29 = .ok (.getfield 70, 3) := by decide +kernel
theorem dX9_choice_32 : decode cX9_choice 32 = .ok (.aload_n 0, 1) := by decide +kernel
theorem dX9_choice_33 : decode cX9_choice 33 = .ok (.getfield 31, 3) := by decide +kernel
theorem dX9_choice_36 : decode cX9_choice 36 = .ok (.invokevirtual 278, 3) := by decide +kernel
theorem dX9_choice_39 : decode cX9_choice 39 = .ok (.ireturn, 1) := by decide +kernel
theorem dX9_parts_0 : decode cX9_parts 0 = .ok (.aload_n 0, 1) := by decide +kernel
theorem dX9_parts_1 : decode cX9_parts 1 = .ok (.iload_n 1, 1) := by decide +kernel
theorem dX9_parts_2 : decode cX9_parts 2 = .ok (.invokevirtual 282, 3) := by decide +kernel
theorem dX9_parts_5 : decode cX9_parts 5 = .ok (.istore_n 2, 1) := by decide +kernel
theorem dX9_parts_6 : decode cX9_parts 6 = .ok (.iload_n 2, 1) := by decide +kernel
theorem dX9_parts_7 : decode cX9_parts 7 = .ok (.ifCond .eq 5, 3) := by decide +kernel
theorem dX9_parts_10 : decode cX9_parts 10 = .ok (.iload_n 2, 1) := by decide +kernel
theorem dX9_parts_11 : decode cX9_parts 11 = .ok (.ireturn, 1) := by decide +kernel
theorem dX9_parts_12 : decode cX9_parts 12 = .ok (.aload_n 0, 1) := by decide +kernel
theorem dX9_parts_13 : decode cX9_parts 13 = .ok (.getfield 11, 3) := by decide +kernel
theorem dX9_parts_16 : decode cX9_parts 16 = .ok (.iload_n 1, 1) := by decide +kernel
theorem dX9_parts_17 : decode cX9_parts 17 = .ok (.aaload, 1) := by decide +kernel
theorem dX9_parts_18 : decode cX9_parts 18 = .ok (.getfield 123, 3) := by decide +kernel
theorem dX9_parts_21 : decode cX9_parts 21 = .ok (.aload_n 0, 1) := by decide +kernel
theorem dX9_parts_22 : decode cX9_parts 22 = .ok (.getfield 31, 3) := by decide +kernel
theorem dX9_parts_25 : decode cX9_parts 25 = .ok (.getfield 208, 3) := by decide +kernel
theorem dX9_parts_28 : decode cX9_parts 28 = .ok (.if_icmp .eq 9, 3) := by decide +kernel
theorem dX9_parts_31 : decode cX9_parts 31 = .ok (.aload_n 0, 1) := by decide +kernel
theorem dX9_parts_32 : decode cX9_parts 32 = .ok (.iconst 5, 1) := by decide +kernel
theorem dX9_parts_33 : decode cX9_parts 33 = .ok (.invokevirtual 104, 3) := by decide +kernel
theorem dX9_parts_36 : decode cX9_parts 36 = .ok (.ireturn, 1) := by decide +kernel
theorem dX9_parts_37 : decode cX9_parts 37 = .ok (.aload_n 0, 1) := by decide +kernel
theorem dX9_parts_38 : decode cX9_parts 38 = .ok (.getfield 70, 3) := by decide +kernel
theorem dX9_parts_41 : decode cX9_parts 41 = .ok (.aload_n 0, 1) := by decide +kernel
theorem dX9_parts_42 : decode cX9_parts 42 = .ok (.getfield 31, 3) := by decide +kernel
theorem dX9_parts_45 : decode cX9_parts 45 = .ok (.aload_n 0, 1) := by decide +kernel
theorem dX9_parts_46 : decode cX9_parts 46 = .ok (.getfield 38, 3) := by decide +kernel
theorem dX9_parts_49 : decode cX9_parts 49 = .ok (.invokevirtual 265, 3) := by decide +kernel
theorem dX9_parts_52 : decode cX9_parts 52 = .ok (.aload_n 0, 1) := by decide +kernel
theorem dX9_parts_53 : decode cX9_parts 53 = .ok (.aload_n 0, 1) := by decide +kernel
theorem dX9_parts_54 : decode cX9_parts 54 = .ok (.getfield 70, 3) := by decide +kernel
theorem dX9_parts_57 : decode cX9_parts 57 = .ok (.aload_n 0, 1) := by decide +kernel
theorem dX9_parts_58 : decode cX9_parts 58 = .ok (.getfield 31, 3) := by decide +kernel
theorem dX9_parts_61 : decode cX9_parts 61 = .ok (.aload_n 0, 1) := by decide +kernel
theorem dX9_parts_62 : decode cX9_parts 62 = .ok (.getfield 11, 3) := by decide +kernel
theorem dX9_parts_65 : decode cX9_parts 65 = .ok (.iload_n 1, 1) := by decide +kernel
theorem dX9_parts_66 : decode cX9_parts 66 = .ok (.aaload, 1) := by decide +kernel
theorem dX9_parts_67 : decode cX9_parts 67 = .ok (.invokevirtual 285, 3) := by decide +kernel
theorem dX9_parts_70 : decode cX9_parts 70 = .ok (.putfield 85, 3) := by decide +kernel
theorem dX9_parts_73 : decode cX9_parts 73 = .ok (.aload_n 0, 1) := by decide +kernel
theorem dX9_parts_74 : decode cX9_parts 74 = .ok (.getfield 85, 3) := by decide +kernel
theorem dX9_parts_77 : decode cX9_parts 77 = .ok (.bipush (-9), 2) := by decide +kernel
theorem dX9_parts_79 : decode cX9_parts 79 = .ok (.if_icmp .ne 7, 3) := by decide +kernel
theorem dX9_parts_82 : decode cX9_parts 82 = .ok (.iconst 1, 1) := by decide +kernel
theorem dX9_parts_83 : decode cX9_parts 83 = .ok (.goto 4, 3) := by decide +kernel
theorem dX9_parts_86 : decode cX9_parts 86 = .ok (.iconst 0, 1) := by decide +kernel
theorem dX9_parts_87 : decode cX9_parts 87 = .ok (.ireturn, 1) := by decide +kernel
theorem dX9_fits_0 : decode cX9_fits 0 = .ok (.aload_n 0, 1) := by decide +kernel
theorem dX9_fits_1 : decode cX9_fits 1 = .ok (.getfield 31, 3) := by decide +kernel
theorem dX9_fits_4 : decode cX9_fits 4 = .ok (.iload_n 1, 1) := by decide +kernel
theorem dX9_fits_5 : decode cX9_fits 5 = .ok (.invokevirtual 180, 3) := by decide +kernel
theorem dX9_fits_8 : decode cX9_fits 8 = .ok (.ifCond .eq 10, 3) := by decide +kernel
theorem dX9_fits_11 : decode cX9_fits 11 = .ok (.iload_n 3, 1) := by decide +kernel
theorem dX9_fits_12 : decode cX9_fits 12 = .ok (.invokestatic 100, 3) := by decide +kernel
theorem dX9_fits_15 : decode cX9_fits 15 = .ok (.ifCond .ne 5, 3) := by decide +kernel
theorem dX9_fits_18 : decode cX9_fits 18 = .ok (.iconst (-1), 1) := by decide +kernel
theorem dX9_fits_19 : decode cX9_fits 19 = .ok (.ireturn, 1) := by decide +kernel
theorem dX9_fits_20 : decode cX9_fits 20 = .ok (.aload_n 0, 1) := by decide +kernel
theorem dX9_fits_21 : decode cX9_fits 21 = .ok (.iload_n 2, 1) := by decide +kernel
theorem dX9_fits_22 : decode cX9_fits 22 = .ok (.invokevirtual 289, 3) := by decide +kernel
theorem dX9_fits_25 : decode cX9_fits 25 = .ok (.istore 4, 2) := by decide +kernel
theorem dX9_fits_27 : decode cX9_fits 27 = .ok (.iload 4, 2) := by decide +kernel
theorem dX9_fits_29 : decode cX9_fits 29 = .ok (.ifCond .eq 6, 3) := by decide +kernel
theorem dX9_fits_32 : decode cX9_fits 32 = .ok (.iload 4, 2) := by decide +kernel
theorem dX9_fits_34 : decode cX9_fits 34 = .ok (.ireturn, 1) := by decide +kernel
theorem dX9_fits_35 : decode cX9_fits 35 = .ok (.aload_n 0, 1) := by decide +kernel
theorem dX9_fits_36 : decode cX9_fits 36 = .ok (.getfield 11, 3) := by decide +kernel
theorem dX9_fits_39 : decode cX9_fits 39 = .ok (.iload_n 2, 1) := by decide +kernel
theorem dX9_fits_40 : decode cX9_fits 40 = .ok (.aaload, 1) := by decide +kernel
theorem dX9_fits_41 : decode cX9_fits 41 = .ok (.getfield 123, 3) := by decide +kernel
theorem dX9_fits_44 : decode cX9_fits 44 = .ok (.istore 5, 2) := by decide +kernel
theorem dX9_fits_46 : decode cX9_fits 46 = .ok (.aload_n 0, 1) := by decide +kernel
theorem dX9_fits_47 : decode cX9_fits 47 = .ok (.getfield 63, 3) := by decide +kernel
theorem dX9_fits_50 : decode cX9_fits 50 = .ok (.aload_n 0, 1) := by decide +kernel
theorem dX9_fits_51 : decode cX9_fits 51 = .ok (.getfield 31, 3) := by decide +kernel
theorem dX9_fits_54 : decode cX9_fits 54 = .ok (.aload_n 0, 1) := by decide +kernel
theorem dX9_fits_55 : decode cX9_fits 55 = .ok (.getfield 38, 3) := by decide +kernel
theorem dX9_fits_58 : decode cX9_fits 58 = .ok (.iload_n 1, 1) := by decide +kernel
theorem dX9_fits_59 : decode cX9_fits 59 = .ok (.aload_n 0, 1) := by decide +kernel
theorem dX9_fits_60 : decode cX9_fits 60 = .ok (.getfield 11, 3) := by decide +kernel
theorem dX9_fits_63 : decode cX9_fits 63 = .ok (.iload_n 2, 1) := by decide +kernel
theorem dX9_fits_64 : decode cX9_fits 64 = .ok (.aaload, 1) := by decide +kernel
theorem dX9_fits_65 : decode cX9_fits 65 = .ok (.invokevirtual 292, 3) := by decide +kernel
theorem dX9_fits_68 : decode cX9_fits 68 = .ok (.istore 6, 2) := by decide +kernel
theorem dX9_fits_70 : decode cX9_fits 70 = .ok (.iload 6, 2) := by decide +kernel
theorem dX9_fits_72 : decode cX9_fits 72 = .ok (.ifCond .le 21, 3) := by decide +kernel
theorem dX9_fits_75 : decode cX9_fits 75 = .ok (.aload_n 0, 1) := by decide +kernel
theorem dX9_fits_76 : decode cX9_fits 76 = .ok (.getfield 11, 3) := by decide +kernel
theorem dX9_fits_79 : decode cX9_fits 79 = .ok (.iload_n 3, 1) := by decide +kernel
theorem dX9_fits_80 : decode cX9_fits 80 = .ok (.aaload, 1) := by decide +kernel
theorem dX9_fits_81 : decode cX9_fits 81 = .ok (.aload_n 0, 1) := by decide +kernel
theorem dX9_fits_82 : decode cX9_fits 82 = .ok (.getfield 63, 3) := by decide +kernel
theorem dX9_fits_85 : decode cX9_fits 85 = .ok (.getfield 240, 3) := by decide +kernel
theorem dX9_fits_88 : decode cX9_fits 88 = .ok (.iload 5, 2) := by decide +kernel
theorem dX9_fits_90 : decode cX9_fits 90 = .ok (.invokevirtual 243, 3) := by decide +kernel
theorem dX9_fits_93 : decode cX9_fits 93 = .ok (.iload 6, 2) := by decide +kernel
theorem dX9_fits_95 : decode cX9_fits 95 = .ok (.ireturn, 1) := by decide +kernel
theorem dX9_slipped_0 : decode cX9_slipped 0 = .ok (.aload_n 0, 1) := by decide +kernel
theorem dX9_slipped_1 : decode cX9_slipped 1 = .ok (.getfield 31, 3) := by decide +kernel
theorem dX9_slipped_4 : decode cX9_slipped 4 = .ok (.iload_n 1, 1) := by decide +kernel
theorem dX9_slipped_5 : decode cX9_slipped 5 = .ok (.invokevirtual 180, 3) := by decide +kernel
theorem dX9_slipped_8 : decode cX9_slipped 8 = .ok (.ifCond .ne 5, 3) := by decide +kernel
theorem dX9_slipped_11 : decode cX9_slipped 11 = .ok (.iconst (-1), 1) := by decide +kernel
theorem dX9_slipped_12 : decode cX9_slipped 12 = .ok (.ireturn, 1) := by decide +kernel
theorem dX9_slipped_13 : decode cX9_slipped 13 = .ok (.aload_n 0, 1) := by decide +kernel
theorem dX9_slipped_14 : decode cX9_slipped 14 = .ok (.iload_n 2, 1) := by decide +kernel
theorem dX9_slipped_15 : decode cX9_slipped 15 = .ok (.invokevirtual 289, 3) := by decide +kernel
theorem dX9_slipped_18 : decode cX9_slipped 18 = .ok (.istore_n 3, 1) := by decide +kernel
theorem dX9_slipped_19 : decode cX9_slipped 19 = .ok (.iload_n 3, 1) := by decide +kernel
theorem dX9_slipped_20 : decode cX9_slipped 20 = .ok (.ifCond .eq 5, 3) := by decide +kernel
theorem dX9_slipped_23 : decode cX9_slipped 23 = .ok (.iload_n 3, 1) := by decide +kernel
theorem dX9_slipped_24 : decode cX9_slipped 24 = .ok (.ireturn, 1) := by decide +kernel
theorem dX9_slipped_25 : decode cX9_slipped 25 = .ok (.aload_n 0, 1) := by decide +kernel
theorem dX9_slipped_26 : decode cX9_slipped 26 = .ok (.getfield 63, 3) := by decide +kernel
theorem dX9_slipped_29 : decode cX9_slipped 29 = .ok (.aload_n 0, 1) := by decide +kernel
theorem dX9_slipped_30 : decode cX9_slipped 30 = .ok (.getfield 31, 3) := by decide +kernel
theorem dX9_slipped_33 : decode cX9_slipped 33 = .ok (.aload_n 0, 1) := by decide +kernel
theorem dX9_slipped_34 : decode cX9_slipped 34 = .ok (.getfield 38, 3) := by decide +kernel
theorem dX9_slipped_37 : decode cX9_slipped 37 = .ok (.iload_n 1, 1) := by decide +kernel
theorem dX9_slipped_38 : decode cX9_slipped 38 = .ok (.aload_n 0, 1) := by decide +kernel
theorem dX9_slipped_39 : decode cX9_slipped 39 = .ok (.getfield 11, 3) := by decide +kernel
theorem dX9_slipped_42 : decode cX9_slipped 42 = .ok (.iload_n 2, 1) := by decide +kernel
theorem dX9_slipped_43 : decode cX9_slipped 43 = .ok (.aaload, 1) := by decide +kernel
theorem dX9_slipped_44 : decode cX9_slipped 44 = .ok (.invokevirtual 292, 3) := by decide +kernel
theorem dX9_slipped_47 : decode cX9_slipped 47 = .ok (.ifCond .le 13, 3) := by decide +kernel
theorem dX9_slipped_50 : decode cX9_slipped 50 = .ok (.aload_n 0, 1) := by decide +kernel
theorem dX9_slipped_51 : decode cX9_slipped 51 = .ok (.getfield 63, 3) := by decide +kernel
theorem dX9_slipped_54 : decode cX9_slipped 54 = .ok (.getfield 296, 3) := by decide +kernel
theorem dX9_slipped_57 : decode cX9_slipped 57 = .ok (.goto 4, 3) := by decide +kernel
theorem dX9_slipped_60 : decode cX9_slipped 60 = .ok (.iconst 0, 1) := by decide +kernel
theorem dX9_slipped_61 : decode cX9_slipped 61 = .ok (.ireturn, 1) := by decide +kernel
theorem dX9_odds_0 : decode cX9_odds 0 = .ok (.aload_n 0, 1) := by decide +kernel
theorem dX9_odds_1 : decode cX9_odds 1 = .ok (.getfield 31, 3) := by decide +kernel
theorem dX9_odds_4 : decode cX9_odds 4 = .ok (.iload_n 1, 1) := by decide +kernel
theorem dX9_odds_5 : decode cX9_odds 5 = .ok (.invokevirtual 180, 3) := by decide +kernel
theorem dX9_odds_8 : decode cX9_odds 8 = .ok (.ifCond .eq 22, 3) := by decide +kernel
theorem dX9_odds_11 : decode cX9_odds 11 = .ok (.iload_n 2, 1) := by decide +kernel
theorem dX9_odds_12 : decode cX9_odds 12 = .ok (.ifCond .lt 18, 3) := by decide +kernel
theorem dX9_odds_15 : decode cX9_odds 15 = .ok (.iload_n 2, 1) := by decide +kernel
theorem dX9_odds_16 : decode cX9_odds 16 = .ok (.iconst 3, 1) := by decide +kernel
theorem dX9_odds_17 : decode cX9_odds 17 = .ok (.if_icmp .gt 13, 3) := by decide +kernel
theorem dX9_odds_20 : decode cX9_odds 20 = .ok (.iload_n 3, 1) := by decide +kernel
theorem dX9_odds_21 : decode cX9_odds 21 = .ok (.ifCond .lt 9, 3) := by decide +kernel
theorem dX9_odds_24 : decode cX9_odds 24 = .ok (.iload_n 3, 1) := by decide +kernel
theorem dX9_odds_25 : decode cX9_odds 25 = .ok (.bipush 99, 2) := by decide +kernel
theorem dX9_odds_27 : decode cX9_odds 27 = .ok (.if_icmp .le 5, 3) := by decide +kernel
theorem dX9_odds_30 : decode cX9_odds 30 = .ok (.iconst (-1), 1) := by decide +kernel
theorem dX9_odds_31 : decode cX9_odds 31 = .ok (.ireturn, 1) := by decide +kernel
theorem dX9_odds_32 : decode cX9_odds 32 = .ok (.aload_n 0, 1) := by decide +kernel
theorem dX9_odds_33 : decode cX9_odds 33 = .ok (.getfield 31, 3) := by decide +kernel
theorem dX9_odds_36 : decode cX9_odds 36 = .ok (.getfield 156, 3) := by decide +kernel
theorem dX9_odds_39 : decode cX9_odds 39 = .ok (.ifCond .ne 6, 3) := by decide +kernel
theorem dX9_odds_42 : decode cX9_odds 42 = .ok (.bipush (-4), 2) := by decide +kernel
theorem dX9_odds_44 : decode cX9_odds 44 = .ok (.ireturn, 1) := by decide +kernel
theorem dX9_odds_45 : decode cX9_odds 45 = .ok (.aload_n 0, 1) := by decide +kernel
theorem dX9_odds_46 : decode cX9_odds 46 = .ok (.aload_n 0, 1) := by decide +kernel
theorem dX9_odds_47 : decode cX9_odds 47 = .ok (.getfield 63, 3) := by decide +kernel
theorem dX9_odds_50 : decode cX9_odds 50 = .ok (.aload_n 0, 1) := by decide +kernel
theorem dX9_odds_51 : decode cX9_odds 51 = .ok (.getfield 31, 3) := by decide +kernel
theorem dX9_odds_54 : decode cX9_odds 54 = .ok (.aload_n 0, 1) := by decide +kernel
theorem dX9_odds_55 : decode cX9_odds 55 = .ok (.getfield 38, 3) := by decide +kernel
theorem dX9_odds_58 : decode cX9_odds 58 = .ok (.iload_n 1, 1) := by decide +kernel
theorem dX9_odds_59 : decode cX9_odds 59 = .ok (.iload_n 2, 1) := by decide +kernel
theorem dX9_odds_60 : decode cX9_odds 60 = .ok (.iload_n 3, 1) := by decide +kernel
theorem dX9_odds_61 : decode cX9_odds 61 = .ok (.invokevirtual 299, 3) := by decide +kernel
theorem dX9_odds_64 : decode cX9_odds 64 = .ok (.iload_n 1, 1) := by decide +kernel
theorem dX9_odds_65 : decode cX9_odds 65 = .ok (.invokestatic 273, 3) := by decide +kernel
theorem dX9_odds_68 : decode cX9_odds 68 = .ok (.iload_n 2, 1) := by decide +kernel
theorem dX9_odds_69 : decode cX9_odds 69 = .ok (.imul, 1) := by decide +kernel
theorem dX9_odds_70 : decode cX9_odds 70 = .ok (.invokevirtual 303, 3) := by decide +kernel
theorem dX9_odds_73 : decode cX9_odds 73 = .ok (.iconst 1, 1) := by decide +kernel
theorem dX9_odds_74 : decode cX9_odds 74 = .ok (.ireturn, 1) := by decide +kernel
theorem dX9_lots_0 : decode cX9_lots 0 = .ok (.iload_n 1, 1) := by decide +kernel
theorem dX9_lots_1 : decode cX9_lots 1 = .ok (.iconst 1, 1) := by decide +kernel
theorem dX9_lots_2 : decode cX9_lots 2 = .ok (.if_icmp .lt 23, 3) := by decide +kernel
theorem dX9_lots_5 : decode cX9_lots 5 = .ok (.iload_n 1, 1) := by decide +kernel
theorem dX9_lots_6 : decode cX9_lots 6 = .ok (.bipush 20, 2) := by decide +kernel
theorem dX9_lots_8 : decode cX9_lots 8 = .ok (.if_icmp .gt 17, 3) := by decide +kernel
theorem dX9_lots_11 : decode cX9_lots 11 = .ok (.iload_n 2, 1) := by decide +kernel
theorem dX9_lots_12 : decode cX9_lots 12 = .ok (.iconst 1, 1) := by decide +kernel
theorem dX9_lots_13 : decode cX9_lots 13 = .ok (.if_icmp .lt 12, 3) := by decide +kernel
theorem dX9_lots_16 : decode cX9_lots 16 = .ok (.iload_n 2, 1) := by decide +kernel
theorem dX9_lots_17 : decode cX9_lots 17 = .ok (.i2l, 1) := by decide +kernel
theorem dX9_lots_18 : decode cX9_lots 18 = .ok (.ldc2_w 307, 3) := by decide +kernel
theorem dX9_lots_21 : decode cX9_lots 21 = .ok (.lcmp, 1) := by decide +kernel
theorem dX9_lots_22 : decode cX9_lots 22 = .ok (.ifCond .lt 5, 3) := by decide +kernel
theorem dX9_lots_25 : decode cX9_lots 25 = .ok (.iconst (-1), 1) := by decide +kernel
theorem dX9_lots_26 : decode cX9_lots 26 = .ok (.ireturn, 1) := by decide +kernel
theorem dX9_lots_27 : decode cX9_lots 27 = .ok (.aload_n 0, 1) := by decide +kernel
theorem dX9_lots_28 : decode cX9_lots 28 = .ok (.getfield 31, 3) := by decide +kernel
theorem dX9_lots_31 : decode cX9_lots 31 = .ok (.getfield 156, 3) := by decide +kernel
theorem dX9_lots_34 : decode cX9_lots 34 = .ok (.ifCond .ne 6, 3) := by decide +kernel
theorem dX9_lots_37 : decode cX9_lots 37 = .ok (.bipush (-4), 2) := by decide +kernel
theorem dX9_lots_39 : decode cX9_lots 39 = .ok (.ireturn, 1) := by decide +kernel
theorem dX9_lots_40 : decode cX9_lots 40 = .ok (.aload_n 0, 1) := by decide +kernel
theorem dX9_lots_41 : decode cX9_lots 41 = .ok (.getfield 45, 3) := by decide +kernel
theorem dX9_lots_44 : decode cX9_lots 44 = .ok (.getfield 97, 3) := by decide +kernel
theorem dX9_lots_47 : decode cX9_lots 47 = .ok (.iload_n 1, 1) := by decide +kernel
theorem dX9_lots_48 : decode cX9_lots 48 = .ok (.iadd, 1) := by decide +kernel
theorem dX9_lots_49 : decode cX9_lots 49 = .ok (.bipush 60, 2) := by decide +kernel
theorem dX9_lots_51 : decode cX9_lots 51 = .ok (.if_icmp .le 6, 3) := by decide +kernel
theorem dX9_lots_54 : decode cX9_lots 54 = .ok (.bipush (-2), 2) := by decide +kernel
theorem dX9_lots_56 : decode cX9_lots 56 = .ok (.ireturn, 1) := by decide +kernel
theorem dX9_lots_57 : decode cX9_lots 57 = .ok (.iload_n 2, 1) := by decide +kernel
theorem dX9_lots_58 : decode cX9_lots 58 = .ok (.i2l, 1) := by decide +kernel
theorem dX9_lots_59 : decode cX9_lots 59 = .ok (.lstore_n 3, 1) := by decide +kernel
theorem dX9_lots_60 : decode cX9_lots 60 = .ok (.iconst 0, 1) := by decide +kernel
theorem dX9_lots_61 : decode cX9_lots 61 = .ok (.istore 5, 2) := by decide +kernel
theorem dX9_lots_63 : decode cX9_lots 63 = .ok (.iconst 0, 1) := by decide +kernel
theorem dX9_lots_64 : decode cX9_lots 64 = .ok (.istore 6, 2) := by decide +kernel
theorem dX9_lots_66 : decode cX9_lots 66 = .ok (.iload 6, 2) := by decide +kernel
theorem dX9_lots_68 : decode cX9_lots 68 = .ok (.iload_n 1, 1) := by decide +kernel
theorem dX9_lots_69 : decode cX9_lots 69 = .ok (.if_icmp .ge 42, 3) := by decide +kernel
theorem dX9_lots_72 : decode cX9_lots 72 = .ok (.ldc2_w 309, 3) := by decide +kernel
theorem dX9_lots_75 : decode cX9_lots 75 = .ok (.lload_n 3, 1) := by decide +kernel
theorem dX9_lots_76 : decode cX9_lots 76 = .ok (.lmul, 1) := by decide +kernel
theorem dX9_lots_77 : decode cX9_lots 77 = .ok (.ldc2_w 307, 3) := by decide +kernel
theorem dX9_lots_80 : decode cX9_lots 80 = .ok (.lrem, 1) := by decide +kernel
theorem dX9_lots_81 : decode cX9_lots 81 = .ok (.lstore_n 3, 1) := by decide +kernel
theorem dX9_lots_82 : decode cX9_lots 82 = .ok (.iload 5, 2) := by decide +kernel
theorem dX9_lots_84 : decode cX9_lots 84 = .ok (.aload_n 0, 1) := by decide +kernel
theorem dX9_lots_85 : decode cX9_lots 85 = .ok (.lload_n 3, 1) := by decide +kernel
theorem dX9_lots_86 : decode cX9_lots 86 = .ok (.ldc2_w 311, 3) := by decide +kernel
theorem dX9_lots_89 : decode cX9_lots 89 = .ok (.ldiv, 1) := by decide +kernel
theorem dX9_lots_90 : decode cX9_lots 90 = .ok (.l2i, 1) := by decide +kernel
theorem dX9_lots_91 : decode cX9_lots 91 = .ok (.aload_n 0, 1) := by decide +kernel
theorem dX9_lots_92 : decode cX9_lots 92 = .ok (.getfield 31, 3) := by decide +kernel
theorem dX9_lots_95 : decode cX9_lots 95 = .ok (.invokevirtual 252, 3) := by decide +kernel
theorem dX9_lots_98 : decode cX9_lots 98 = .ok (.iand, 1) := by decide +kernel
theorem dX9_lots_99 : decode cX9_lots 99 = .ok (.invokevirtual 183, 3) := by decide +kernel
theorem dX9_lots_102 : decode cX9_lots 102 = .ok (.iadd, 1) := by decide +kernel
theorem dX9_lots_103 : decode cX9_lots 103 = .ok (.istore 5, 2) := by decide +kernel
theorem dX9_lots_105 : decode cX9_lots 105 = .ok (.iinc 6 1, 3) := by decide +kernel
theorem dX9_lots_108 : decode cX9_lots 108 = .ok (.goto (-42), 3) := by decide +kernel
theorem dX9_lots_111 : decode cX9_lots 111 = .ok (.iload 5, 2) := by decide +kernel
theorem dX9_lots_113 : decode cX9_lots 113 = .ok (.ireturn, 1) := by decide +kernel
theorem dX9_asked_0 : decode cX9_asked 0 = .ok (.aload_n 0, 1) := by decide +kernel
theorem dX9_asked_1 : decode cX9_asked 1 = .ok (.getfield 85, 3) := by decide +kernel
theorem dX9_asked_4 : decode cX9_asked 4 = .ok (.ireturn, 1) := by decide +kernel
theorem dX9_upper_0 : decode cX9_upper 0 = .ok (.aload_n 0, 1) := by decide +kernel
theorem dX9_upper_1 : decode cX9_upper 1 = .ok (.getfield 88, 3) := by decide +kernel
theorem dX9_upper_4 : decode cX9_upper 4 = .ok (.lreturn, 1) := by decide +kernel
theorem dX9_lower_0 : decode cX9_lower 0 = .ok (.aload_n 0, 1) := by decide +kernel
theorem dX9_lower_1 : decode cX9_lower 1 = .ok (.getfield 92, 3) := by decide +kernel
theorem dX9_lower_4 : decode cX9_lower 4 = .ok (.lreturn, 1) := by decide +kernel
theorem dX9_count_0 : decode cX9_count 0 = .ok (.iload_n 1, 1) := by decide +kernel
theorem dX9_count_1 : decode cX9_count 1 = .ok (.ifCond .lt 9, 3) := by decide +kernel
theorem dX9_count_4 : decode cX9_count 4 = .ok (.iload_n 1, 1) := by decide +kernel
theorem dX9_count_5 : decode cX9_count 5 = .ok (.bipush 9, 2) := by decide +kernel
theorem dX9_count_7 : decode cX9_count 7 = .ok (.if_icmp .lt 7, 3) := by decide +kernel
theorem dX9_count_10 : decode cX9_count 10 = .ok (.iconst (-1), 1) := by decide +kernel
theorem dX9_count_11 : decode cX9_count 11 = .ok (.goto 8, 3) := by decide +kernel
theorem dX9_count_14 : decode cX9_count 14 = .ok (.aload_n 0, 1) := by decide +kernel
theorem dX9_count_15 : decode cX9_count 15 = .ok (.iload_n 1, 1) := by decide +kernel
theorem dX9_count_16 : decode cX9_count 16 = .ok (.invokevirtual 313, 3) := by decide +kernel
theorem dX9_count_19 : decode cX9_count 19 = .ok (.ireturn, 1) := by decide +kernel
theorem dX9_finding_0 : decode cX9_finding 0 = .ok (.aload_n 0, 1) := by decide +kernel
theorem dX9_finding_1 : decode cX9_finding 1 = .ok (.getfield 81, 3) := by decide +kernel
theorem dX9_finding_4 : decode cX9_finding 4 = .ok (.ireturn, 1) := by decide +kernel
theorem dX9_findings_0 : decode cX9_findings 0 = .ok (.iload_n 1, 1) := by decide +kernel
theorem dX9_findings_1 : decode cX9_findings 1 = .ok (.iconst 1, 1) := by decide +kernel
theorem dX9_findings_2 : decode cX9_findings 2 = .ok (.if_icmp .lt 8, 3) := by decide +kernel
theorem dX9_findings_5 : decode cX9_findings 5 = .ok (.iload_n 1, 1) := by decide +kernel
theorem dX9_findings_6 : decode cX9_findings 6 = .ok (.iconst 5, 1) := by decide +kernel
theorem dX9_findings_7 : decode cX9_findings 7 = .ok (.if_icmp .le 7, 3) := by decide +kernel
theorem dX9_findings_10 : decode cX9_findings 10 = .ok (.iconst (-1), 1) := by decide +kernel
theorem dX9_findings_11 : decode cX9_findings 11 = .ok (.goto 9, 3) := by decide +kernel
theorem dX9_findings_14 : decode cX9_findings 14 = .ok (.aload_n 0, 1) := by decide +kernel
theorem dX9_findings_15 : decode cX9_findings 15 = .ok (.getfield 78, 3) := by decide +kernel
theorem dX9_findings_18 : decode cX9_findings 18 = .ok (.iload_n 1, 1) := by decide +kernel
theorem dX9_findings_19 : decode cX9_findings 19 = .ok (.iaload, 1) := by decide +kernel
theorem dX9_findings_20 : decode cX9_findings 20 = .ok (.ireturn, 1) := by decide +kernel
theorem dX9_digest_0 : decode cX9_digest 0 = .ok (.ldc2_w 316, 3) := by decide +kernel
theorem dX9_digest_3 : decode cX9_digest 3 = .ok (.lstore_n 1, 1) := by decide +kernel
theorem dX9_digest_4 : decode cX9_digest 4 = .ok (.iconst 0, 1) := by decide +kernel
theorem dX9_digest_5 : decode cX9_digest 5 = .ok (.istore_n 3, 1) := by decide +kernel
theorem dX9_digest_6 : decode cX9_digest 6 = .ok (.iload_n 3, 1) := by decide +kernel
theorem dX9_digest_7 : decode cX9_digest 7 = .ok (.bipush 9, 2) := by decide +kernel
theorem dX9_digest_9 : decode cX9_digest 9 = .ok (.if_icmp .ge 22, 3) := by decide +kernel
theorem dX9_digest_12 : decode cX9_digest 12 = .ok (.ldc2_w 318, 3) := by decide +kernel
theorem dX9_digest_15 : decode cX9_digest 15 = .ok (.lload_n 1, 1) := by decide +kernel
theorem dX9_digest_16 : decode cX9_digest 16 = .ok (.lmul, 1) := by decide +kernel
theorem dX9_digest_17 : decode cX9_digest 17 = .ok (.aload_n 0, 1) := by decide +kernel
theorem dX9_digest_18 : decode cX9_digest 18 = .ok (.iload_n 3, 1) := by decide +kernel
theorem dX9_digest_19 : decode cX9_digest 19 = .ok (.invokevirtual 313, 3) := by decide +kernel
theorem dX9_digest_22 : decode cX9_digest 22 = .ok (.i2l, 1) := by decide +kernel
theorem dX9_digest_23 : decode cX9_digest 23 = .ok (.ladd, 1) := by decide +kernel
theorem dX9_digest_24 : decode cX9_digest 24 = .ok (.lstore_n 1, 1) := by decide +kernel
theorem dX9_digest_25 : decode cX9_digest 25 = .ok (.iinc 3 1, 3) := by decide +kernel
theorem dX9_digest_28 : decode cX9_digest 28 = .ok (.goto (-22), 3) := by decide +kernel
theorem dX9_digest_31 : decode cX9_digest 31 = .ok (.ldc2_w 318, 3) := by decide +kernel
theorem dX9_digest_34 : decode cX9_digest 34 = .ok (.lload_n 1, 1) := by decide +kernel
theorem dX9_digest_35 : decode cX9_digest 35 = .ok (.lmul, 1) := by decide +kernel
theorem dX9_digest_36 : decode cX9_digest 36 = .ok (.aload_n 0, 1) := by decide +kernel
theorem dX9_digest_37 : decode cX9_digest 37 = .ok (.getfield 38, 3) := by decide +kernel
theorem dX9_digest_40 : decode cX9_digest 40 = .ok (.getfield 193, 3) := by decide +kernel
theorem dX9_digest_43 : decode cX9_digest 43 = .ok (.iconst 0, 1) := by decide +kernel
theorem dX9_digest_44 : decode cX9_digest 44 = .ok (.iaload, 1) := by decide +kernel
theorem dX9_digest_45 : decode cX9_digest 45 = .ok (.i2l, 1) := by decide +kernel
theorem dX9_digest_46 : decode cX9_digest 46 = .ok (.ladd, 1) := by decide +kernel
theorem dX9_digest_47 : decode cX9_digest 47 = .ok (.lstore_n 1, 1) := by decide +kernel
theorem dX9_digest_48 : decode cX9_digest 48 = .ok (.ldc2_w 318, 3) := by decide +kernel
theorem dX9_digest_51 : decode cX9_digest 51 = .ok (.lload_n 1, 1) := by decide +kernel
theorem dX9_digest_52 : decode cX9_digest 52 = .ok (.lmul, 1) := by decide +kernel
theorem dX9_digest_53 : decode cX9_digest 53 = .ok (.aload_n 0, 1) := by decide +kernel
theorem dX9_digest_54 : decode cX9_digest 54 = .ok (.getfield 38, 3) := by decide +kernel
theorem dX9_digest_57 : decode cX9_digest 57 = .ok (.getfield 193, 3) := by decide +kernel
theorem dX9_digest_60 : decode cX9_digest 60 = .ok (.iconst 1, 1) := by decide +kernel
theorem dX9_digest_61 : decode cX9_digest 61 = .ok (.iaload, 1) := by decide +kernel
theorem dX9_digest_62 : decode cX9_digest 62 = .ok (.i2l, 1) := by decide +kernel
theorem dX9_digest_63 : decode cX9_digest 63 = .ok (.ladd, 1) := by decide +kernel
theorem dX9_digest_64 : decode cX9_digest 64 = .ok (.lstore_n 1, 1) := by decide +kernel
theorem dX9_digest_65 : decode cX9_digest 65 = .ok (.iconst 0, 1) := by decide +kernel
theorem dX9_digest_66 : decode cX9_digest 66 = .ok (.istore_n 3, 1) := by decide +kernel
theorem dX9_digest_67 : decode cX9_digest 67 = .ok (.iload_n 3, 1) := by decide +kernel
theorem dX9_digest_68 : decode cX9_digest 68 = .ok (.aload_n 0, 1) := by decide +kernel
theorem dX9_digest_69 : decode cX9_digest 69 = .ok (.getfield 31, 3) := by decide +kernel
theorem dX9_digest_72 : decode cX9_digest 72 = .ok (.getfield 156, 3) := by decide +kernel
theorem dX9_digest_75 : decode cX9_digest 75 = .ok (.if_icmp .ge 39, 3) := by decide +kernel
theorem dX9_digest_78 : decode cX9_digest 78 = .ok (.iconst 0, 1) := by decide +kernel
theorem dX9_digest_79 : decode cX9_digest 79 = .ok (.istore 4, 2) := by decide +kernel
theorem dX9_digest_81 : decode cX9_digest 81 = .ok (.iload 4, 2) := by decide +kernel
theorem dX9_digest_83 : decode cX9_digest 83 = .ok (.iconst 3, 1) := by decide +kernel
theorem dX9_digest_84 : decode cX9_digest 84 = .ok (.if_icmp .gt 24, 3) := by decide +kernel
theorem dX9_digest_87 : decode cX9_digest 87 = .ok (.ldc2_w 318, 3) := by decide +kernel
theorem dX9_digest_90 : decode cX9_digest 90 = .ok (.lload_n 1, 1) := by decide +kernel
theorem dX9_digest_91 : decode cX9_digest 91 = .ok (.lmul, 1) := by decide +kernel
theorem dX9_digest_92 : decode cX9_digest 92 = .ok (.aload_n 0, 1) := by decide +kernel
theorem dX9_digest_93 : decode cX9_digest 93 = .ok (.iload_n 3, 1) := by decide +kernel
theorem dX9_digest_94 : decode cX9_digest 94 = .ok (.iload 4, 2) := by decide +kernel
theorem dX9_digest_96 : decode cX9_digest 96 = .ok (.invokevirtual 162, 3) := by decide +kernel
theorem dX9_digest_99 : decode cX9_digest 99 = .ok (.i2l, 1) := by decide +kernel
theorem dX9_digest_100 : decode cX9_digest 100 = .ok (.ladd, 1) := by decide +kernel
theorem dX9_digest_101 : decode cX9_digest 101 = .ok (.lstore_n 1, 1) := by decide +kernel
theorem dX9_digest_102 : decode cX9_digest 102 = .ok (.iinc 4 1, 3) := by decide +kernel
theorem dX9_digest_105 : decode cX9_digest 105 = .ok (.goto (-24), 3) := by decide +kernel
theorem dX9_digest_108 : decode cX9_digest 108 = .ok (.iinc 3 1, 3) := by decide +kernel
theorem dX9_digest_111 : decode cX9_digest 111 = .ok (.goto (-44), 3) := by decide +kernel
theorem dX9_digest_114 : decode cX9_digest 114 = .ok (.iconst 0, 1) := by decide +kernel
theorem dX9_digest_115 : decode cX9_digest 115 = .ok (.istore_n 3, 1) := by decide +kernel
theorem dX9_digest_116 : decode cX9_digest 116 = .ok (.iload_n 3, 1) := by decide +kernel
theorem dX9_digest_117 : decode cX9_digest 117 = .ok (.aload_n 0, 1) := by decide +kernel
theorem dX9_digest_118 : decode cX9_digest 118 = .ok (.getfield 31, 3) := by decide +kernel
theorem dX9_digest_121 : decode cX9_digest 121 = .ok (.getfield 208, 3) := by decide +kernel
theorem dX9_digest_124 : decode cX9_digest 124 = .ok (.if_icmp .ge 39, 3) := by decide +kernel
theorem dX9_digest_127 : decode cX9_digest 127 = .ok (.iconst 0, 1) := by decide +kernel
theorem dX9_digest_128 : decode cX9_digest 128 = .ok (.istore 4, 2) := by decide +kernel
theorem dX9_digest_130 : decode cX9_digest 130 = .ok (.iload 4, 2) := by decide +kernel
theorem dX9_digest_132 : decode cX9_digest 132 = .ok (.iconst 4, 1) := by decide +kernel
theorem dX9_digest_133 : decode cX9_digest 133 = .ok (.if_icmp .gt 24, 3) := by decide +kernel
theorem dX9_digest_136 : decode cX9_digest 136 = .ok (.ldc2_w 318, 3) := by decide +kernel
theorem dX9_digest_139 : decode cX9_digest 139 = .ok (.lload_n 1, 1) := by decide +kernel
theorem dX9_digest_140 : decode cX9_digest 140 = .ok (.lmul, 1) := by decide +kernel
theorem dX9_digest_141 : decode cX9_digest 141 = .ok (.aload_n 0, 1) := by decide +kernel
theorem dX9_digest_142 : decode cX9_digest 142 = .ok (.iload_n 3, 1) := by decide +kernel
theorem dX9_digest_143 : decode cX9_digest 143 = .ok (.iload 4, 2) := by decide +kernel
theorem dX9_digest_145 : decode cX9_digest 145 = .ok (.invokevirtual 168, 3) := by decide +kernel
theorem dX9_digest_148 : decode cX9_digest 148 = .ok (.i2l, 1) := by decide +kernel
theorem dX9_digest_149 : decode cX9_digest 149 = .ok (.ladd, 1) := by decide +kernel
theorem dX9_digest_150 : decode cX9_digest 150 = .ok (.lstore_n 1, 1) := by decide +kernel
theorem dX9_digest_151 : decode cX9_digest 151 = .ok (.iinc 4 1, 3) := by decide +kernel
theorem dX9_digest_154 : decode cX9_digest 154 = .ok (.goto (-24), 3) := by decide +kernel
theorem dX9_digest_157 : decode cX9_digest 157 = .ok (.iinc 3 1, 3) := by decide +kernel
theorem dX9_digest_160 : decode cX9_digest 160 = .ok (.goto (-44), 3) := by decide +kernel
theorem dX9_digest_163 : decode cX9_digest 163 = .ok (.iconst 0, 1) := by decide +kernel
theorem dX9_digest_164 : decode cX9_digest 164 = .ok (.istore_n 3, 1) := by decide +kernel
theorem dX9_digest_165 : decode cX9_digest 165 = .ok (.iload_n 3, 1) := by decide +kernel
theorem dX9_digest_166 : decode cX9_digest 166 = .ok (.iconst 3, 1) := by decide +kernel
theorem dX9_digest_167 : decode cX9_digest 167 = .ok (.if_icmp .ge 26, 3) := by decide +kernel
theorem dX9_digest_170 : decode cX9_digest 170 = .ok (.ldc2_w 318, 3) := by decide +kernel
theorem dX9_digest_173 : decode cX9_digest 173 = .ok (.lload_n 1, 1) := by decide +kernel
theorem dX9_digest_174 : decode cX9_digest 174 = .ok (.lmul, 1) := by decide +kernel
theorem dX9_digest_175 : decode cX9_digest 175 = .ok (.aload_n 0, 1) := by decide +kernel
theorem dX9_digest_176 : decode cX9_digest 176 = .ok (.getfield 49, 3) := by decide +kernel
theorem dX9_digest_179 : decode cX9_digest 179 = .ok (.iload_n 3, 1) := by decide +kernel
theorem dX9_digest_180 : decode cX9_digest 180 = .ok (.aaload, 1) := by decide +kernel
theorem dX9_digest_181 : decode cX9_digest 181 = .ok (.getfield 97, 3) := by decide +kernel
theorem dX9_digest_184 : decode cX9_digest 184 = .ok (.i2l, 1) := by decide +kernel
theorem dX9_digest_185 : decode cX9_digest 185 = .ok (.ladd, 1) := by decide +kernel
theorem dX9_digest_186 : decode cX9_digest 186 = .ok (.lstore_n 1, 1) := by decide +kernel
theorem dX9_digest_187 : decode cX9_digest 187 = .ok (.iinc 3 1, 3) := by decide +kernel
theorem dX9_digest_190 : decode cX9_digest 190 = .ok (.goto (-25), 3) := by decide +kernel
theorem dX9_digest_193 : decode cX9_digest 193 = .ok (.iconst 0, 1) := by decide +kernel
theorem dX9_digest_194 : decode cX9_digest 194 = .ok (.istore_n 3, 1) := by decide +kernel
theorem dX9_digest_195 : decode cX9_digest 195 = .ok (.iload_n 3, 1) := by decide +kernel
theorem dX9_digest_196 : decode cX9_digest 196 = .ok (.bipush 6, 2) := by decide +kernel
theorem dX9_digest_198 : decode cX9_digest 198 = .ok (.if_icmp .ge 20, 3) := by decide +kernel
theorem dX9_digest_201 : decode cX9_digest 201 = .ok (.aload_n 0, 1) := by decide +kernel
theorem dX9_digest_202 : decode cX9_digest 202 = .ok (.getfield 11, 3) := by decide +kernel
theorem dX9_digest_205 : decode cX9_digest 205 = .ok (.iload_n 3, 1) := by decide +kernel
theorem dX9_digest_206 : decode cX9_digest 206 = .ok (.aaload, 1) := by decide +kernel
theorem dX9_digest_207 : decode cX9_digest 207 = .ok (.lload_n 1, 1) := by decide +kernel
theorem dX9_digest_208 : decode cX9_digest 208 = .ok (.invokevirtual 320, 3) := by decide +kernel
theorem dX9_digest_211 : decode cX9_digest 211 = .ok (.lstore_n 1, 1) := by decide +kernel
theorem dX9_digest_212 : decode cX9_digest 212 = .ok (.iinc 3 1, 3) := by decide +kernel
theorem dX9_digest_215 : decode cX9_digest 215 = .ok (.goto (-20), 3) := by decide +kernel
theorem dX9_digest_218 : decode cX9_digest 218 = .ok (.iconst 0, 1) := by decide +kernel
theorem dX9_digest_219 : decode cX9_digest 219 = .ok (.istore_n 3, 1) := by decide +kernel
theorem dX9_digest_220 : decode cX9_digest 220 = .ok (.iload_n 3, 1) := by decide +kernel
theorem dX9_digest_221 : decode cX9_digest 221 = .ok (.iconst 4, 1) := by decide +kernel
theorem dX9_digest_222 : decode cX9_digest 222 = .ok (.if_icmp .ge 20, 3) := by decide +kernel
theorem dX9_digest_225 : decode cX9_digest 225 = .ok (.aload_n 0, 1) := by decide +kernel
theorem dX9_digest_226 : decode cX9_digest 226 = .ok (.getfield 17, 3) := by decide +kernel
theorem dX9_digest_229 : decode cX9_digest 229 = .ok (.iload_n 3, 1) := by decide +kernel
theorem dX9_digest_230 : decode cX9_digest 230 = .ok (.aaload, 1) := by decide +kernel
theorem dX9_digest_231 : decode cX9_digest 231 = .ok (.lload_n 1, 1) := by decide +kernel
theorem dX9_digest_232 : decode cX9_digest 232 = .ok (.invokevirtual 324, 3) := by decide +kernel
theorem dX9_digest_235 : decode cX9_digest 235 = .ok (.lstore_n 1, 1) := by decide +kernel
theorem dX9_digest_236 : decode cX9_digest 236 = .ok (.iinc 3 1, 3) := by decide +kernel
theorem dX9_digest_239 : decode cX9_digest 239 = .ok (.goto (-19), 3) := by decide +kernel
theorem dX9_digest_242 : decode cX9_digest 242 = .ok (.lload_n 1, 1) := by decide +kernel
theorem dX9_digest_243 : decode cX9_digest 243 = .ok (.lreturn, 1) := by decide +kernel
theorem dX9_isRow_0 : decode cX9_isRow 0 = .ok (.iload_n 0, 1) := by decide +kernel
theorem dX9_isRow_1 : decode cX9_isRow 1 = .ok (.ifCond .lt 13, 3) := by decide +kernel
theorem dX9_isRow_4 : decode cX9_isRow 4 = .ok (.iload_n 0, 1) := by decide +kernel
theorem dX9_isRow_5 : decode cX9_isRow 5 = .ok (.bipush 6, 2) := by decide +kernel
theorem dX9_isRow_7 : decode cX9_isRow 7 = .ok (.if_icmp .ge 7, 3) := by decide +kernel
theorem dX9_isRow_10 : decode cX9_isRow 10 = .ok (.iconst 1, 1) := by decide +kernel
theorem dX9_isRow_11 : decode cX9_isRow 11 = .ok (.goto 4, 3) := by decide +kernel
theorem dX9_isRow_14 : decode cX9_isRow 14 = .ok (.iconst 0, 1) := by decide +kernel
theorem dX9_isRow_15 : decode cX9_isRow 15 = .ok (.ireturn, 1) := by decide +kernel
theorem dX9_isText_0 : decode cX9_isText 0 = .ok (.iload_n 0, 1) := by decide +kernel
theorem dX9_isText_1 : decode cX9_isText 1 = .ok (.ifCond .lt 12, 3) := by decide +kernel
theorem dX9_isText_4 : decode cX9_isText 4 = .ok (.iload_n 0, 1) := by decide +kernel
theorem dX9_isText_5 : decode cX9_isText 5 = .ok (.iconst 4, 1) := by decide +kernel
theorem dX9_isText_6 : decode cX9_isText 6 = .ok (.if_icmp .ge 7, 3) := by decide +kernel
theorem dX9_isText_9 : decode cX9_isText 9 = .ok (.iconst 1, 1) := by decide +kernel
theorem dX9_isText_10 : decode cX9_isText 10 = .ok (.goto 4, 3) := by decide +kernel
theorem dX9_isText_13 : decode cX9_isText 13 = .ok (.iconst 0, 1) := by decide +kernel
theorem dX9_isText_14 : decode cX9_isText 14 = .ok (.ireturn, 1) := by decide +kernel
theorem dX9_isKeptPlace_0 : decode cX9_isKeptPlace 0 = .ok (.iload_n 0, 1) := by decide +kernel
theorem dX9_isKeptPlace_1 : decode cX9_isKeptPlace 1 = .ok (.ifCond .lt 12, 3) := by decide +kernel
theorem dX9_isKeptPlace_4 : decode cX9_isKeptPlace 4 = .ok (.iload_n 0, 1) := by decide +kernel
theorem dX9_isKeptPlace_5 : decode cX9_isKeptPlace 5 = .ok (.iconst 3, 1) := by decide +kernel
theorem dX9_isKeptPlace_6 : decode cX9_isKeptPlace 6 = .ok (.if_icmp .ge 7, 3) := by decide +kernel
theorem dX9_isKeptPlace_9 : decode cX9_isKeptPlace 9 = .ok (.iconst 1, 1) := by decide +kernel
theorem dX9_isKeptPlace_10 : decode cX9_isKeptPlace 10 = .ok (.goto 4, 3) := by decide +kernel
theorem dX9_isKeptPlace_13 : decode cX9_isKeptPlace 13 = .ok (.iconst 0, 1) := by decide +kernel
theorem dX9_isKeptPlace_14 : decode cX9_isKeptPlace 14 = .ok (.ireturn, 1) := by decide +kernel
theorem dX9_found_0 : decode cX9_found 0 = .ok (.aload_n 0, 1) := by decide +kernel
theorem dX9_found_1 : decode cX9_found 1 = .ok (.iload_n 1, 1) := by decide +kernel
theorem dX9_found_2 : decode cX9_found 2 = .ok (.putfield 81, 3) := by decide +kernel
theorem dX9_found_5 : decode cX9_found 5 = .ok (.aload_n 0, 1) := by decide +kernel
theorem dX9_found_6 : decode cX9_found 6 = .ok (.getfield 78, 3) := by decide +kernel
theorem dX9_found_9 : decode cX9_found 9 = .ok (.iload_n 1, 1) := by decide +kernel
theorem dX9_found_10 : decode cX9_found 10 = .ok (.dup2, 1) := by decide +kernel
theorem dX9_found_11 : decode cX9_found 11 = .ok (.iaload, 1) := by decide +kernel
theorem dX9_found_12 : decode cX9_found 12 = .ok (.iconst 1, 1) := by decide +kernel
theorem dX9_found_13 : decode cX9_found 13 = .ok (.iadd, 1) := by decide +kernel
theorem dX9_found_14 : decode cX9_found 14 = .ok (.iastore, 1) := by decide +kernel
theorem dX9_found_15 : decode cX9_found 15 = .ok (.bipush (-3), 2) := by decide +kernel
theorem dX9_found_17 : decode cX9_found 17 = .ok (.ireturn, 1) := by decide +kernel
theorem dX9_placeRefusal_0 : decode cX9_placeRefusal 0 = .ok (.iload_n 1, 1) := by decide +kernel
theorem dX9_placeRefusal_1 : decode cX9_placeRefusal 1 = .ok (.invokestatic 100, 3) := by decide +kernel
theorem dX9_placeRefusal_4 : decode cX9_placeRefusal 4 = .ok (.ifCond .ne 5, 3) := by decide +kernel
theorem dX9_placeRefusal_7 : decode cX9_placeRefusal 7 = .ok (.iconst (-1), 1) := by decide +kernel
theorem dX9_placeRefusal_8 : decode cX9_placeRefusal 8 = .ok (.ireturn, 1) := by decide +kernel
theorem dX9_placeRefusal_9 : decode cX9_placeRefusal 9 = .ok (.aload_n 0, 1) := by decide +kernel
theorem dX9_placeRefusal_10 : decode cX9_placeRefusal 10 = .ok (.getfield 11, 3) := by decide +kernel
theorem dX9_placeRefusal_13 : decode cX9_placeRefusal 13 = .ok (.iload_n 1, 1) := by decide +kernel
theorem dX9_placeRefusal_14 : decode cX9_placeRefusal 14 = .ok (.aaload, 1) := by decide +kernel
theorem dX9_placeRefusal_15 : decode cX9_placeRefusal 15 = .ok (.invokevirtual 119, 3) := by decide +kernel
theorem dX9_placeRefusal_18 : decode cX9_placeRefusal 18 = .ok (.ifCond .ne 9, 3) := by decide +kernel
theorem dX9_placeRefusal_21 : decode cX9_placeRefusal 21 = .ok (.aload_n 0, 1) := by decide +kernel
theorem dX9_placeRefusal_22 : decode cX9_placeRefusal 22 = .ok (.iconst 1, 1) := by decide +kernel
theorem dX9_placeRefusal_23 : decode cX9_placeRefusal 23 = .ok (.invokevirtual 104, 3) := by decide +kernel
theorem dX9_placeRefusal_26 : decode cX9_placeRefusal 26 = .ok (.ireturn, 1) := by decide +kernel
theorem dX9_placeRefusal_27 : decode cX9_placeRefusal 27 = .ok (.iload_n 2, 1) := by decide +kernel
theorem dX9_placeRefusal_28 : decode cX9_placeRefusal 28 = .ok (.ifCond .lt 16, 3) := by decide +kernel
theorem dX9_placeRefusal_31 : decode cX9_placeRefusal 31 = .ok (.iload_n 2, 1) := by decide +kernel
theorem dX9_placeRefusal_32 : decode cX9_placeRefusal 32 = .ok (.aload_n 0, 1) := by decide +kernel
theorem dX9_placeRefusal_33 : decode cX9_placeRefusal 33 = .ok (.getfield 11, 3) := by decide +kernel
theorem dX9_placeRefusal_36 : decode cX9_placeRefusal 36 = .ok (.iload_n 1, 1) := by decide +kernel
theorem dX9_placeRefusal_37 : decode cX9_placeRefusal 37 = .ok (.aaload, 1) := by decide +kernel
theorem dX9_placeRefusal_38 : decode cX9_placeRefusal 38 = .ok (.getfield 123, 3) := by decide +kernel
theorem dX9_placeRefusal_41 : decode cX9_placeRefusal 41 = .ok (.if_icmp .lt 9, 3) := by decide +kernel
theorem dX9_placeRefusal_44 : decode cX9_placeRefusal 44 = .ok (.aload_n 0, 1) := by decide +kernel
theorem dX9_placeRefusal_45 : decode cX9_placeRefusal 45 = .ok (.iconst 2, 1) := by decide +kernel
theorem dX9_placeRefusal_46 : decode cX9_placeRefusal 46 = .ok (.invokevirtual 104, 3) := by decide +kernel
theorem dX9_placeRefusal_49 : decode cX9_placeRefusal 49 = .ok (.ireturn, 1) := by decide +kernel
theorem dX9_placeRefusal_50 : decode cX9_placeRefusal 50 = .ok (.iconst 0, 1) := by decide +kernel
theorem dX9_placeRefusal_51 : decode cX9_placeRefusal 51 = .ok (.ireturn, 1) := by decide +kernel
theorem dX9_rowRefusal_0 : decode cX9_rowRefusal 0 = .ok (.iload_n 1, 1) := by decide +kernel
theorem dX9_rowRefusal_1 : decode cX9_rowRefusal 1 = .ok (.invokestatic 100, 3) := by decide +kernel
theorem dX9_rowRefusal_4 : decode cX9_rowRefusal 4 = .ok (.ifCond .ne 5, 3) := by decide +kernel
theorem dX9_rowRefusal_7 : decode cX9_rowRefusal 7 = .ok (.iconst (-1), 1) := by decide +kernel
theorem dX9_rowRefusal_8 : decode cX9_rowRefusal 8 = .ok (.ireturn, 1) := by decide +kernel
theorem dX9_rowRefusal_9 : decode cX9_rowRefusal 9 = .ok (.aload_n 0, 1) := by decide +kernel
theorem dX9_rowRefusal_10 : decode cX9_rowRefusal 10 = .ok (.getfield 31, 3) := by decide +kernel
theorem dX9_rowRefusal_13 : decode cX9_rowRefusal 13 = .ok (.getfield 156, 3) := by decide +kernel
theorem dX9_rowRefusal_16 : decode cX9_rowRefusal 16 = .ok (.ifCond .ne 6, 3) := by decide +kernel
theorem dX9_rowRefusal_19 : decode cX9_rowRefusal 19 = .ok (.bipush (-4), 2) := by decide +kernel
theorem dX9_rowRefusal_21 : decode cX9_rowRefusal 21 = .ok (.ireturn, 1) := by decide +kernel
theorem dX9_rowRefusal_22 : decode cX9_rowRefusal 22 = .ok (.aload_n 0, 1) := by decide +kernel
theorem dX9_rowRefusal_23 : decode cX9_rowRefusal 23 = .ok (.getfield 11, 3) := by decide +kernel
theorem dX9_rowRefusal_26 : decode cX9_rowRefusal 26 = .ok (.iload_n 1, 1) := by decide +kernel
theorem dX9_rowRefusal_27 : decode cX9_rowRefusal 27 = .ok (.aaload, 1) := by decide +kernel
theorem dX9_rowRefusal_28 : decode cX9_rowRefusal 28 = .ok (.invokevirtual 119, 3) := by decide +kernel
theorem dX9_rowRefusal_31 : decode cX9_rowRefusal 31 = .ok (.ifCond .ne 9, 3) := by decide +kernel
theorem dX9_rowRefusal_34 : decode cX9_rowRefusal 34 = .ok (.aload_n 0, 1) := by decide +kernel
theorem dX9_rowRefusal_35 : decode cX9_rowRefusal 35 = .ok (.iconst 1, 1) := by decide +kernel
theorem dX9_rowRefusal_36 : decode cX9_rowRefusal 36 = .ok (.invokevirtual 104, 3) := by decide +kernel
theorem dX9_rowRefusal_39 : decode cX9_rowRefusal 39 = .ok (.ireturn, 1) := by decide +kernel
theorem dX9_rowRefusal_40 : decode cX9_rowRefusal 40 = .ok (.iconst 0, 1) := by decide +kernel
theorem dX9_rowRefusal_41 : decode cX9_rowRefusal 41 = .ok (.ireturn, 1) := by decide +kernel
theorem dX9_planRefusal_0 : decode cX9_planRefusal 0 = .ok (.aload_n 0, 1) := by decide +kernel
theorem dX9_planRefusal_1 : decode cX9_planRefusal 1 = .ok (.iload_n 1, 1) := by decide +kernel
theorem dX9_planRefusal_2 : decode cX9_planRefusal 2 = .ok (.invokevirtual 282, 3) := by decide +kernel
theorem dX9_planRefusal_5 : decode cX9_planRefusal 5 = .ok (.istore_n 2, 1) := by decide +kernel
theorem dX9_planRefusal_6 : decode cX9_planRefusal 6 = .ok (.iload_n 2, 1) := by decide +kernel
theorem dX9_planRefusal_7 : decode cX9_planRefusal 7 = .ok (.ifCond .eq 5, 3) := by decide +kernel
theorem dX9_planRefusal_10 : decode cX9_planRefusal 10 = .ok (.iload_n 2, 1) := by decide +kernel
theorem dX9_planRefusal_11 : decode cX9_planRefusal 11 = .ok (.ireturn, 1) := by decide +kernel
theorem dX9_planRefusal_12 : decode cX9_planRefusal 12 = .ok (.aload_n 0, 1) := by decide +kernel
theorem dX9_planRefusal_13 : decode cX9_planRefusal 13 = .ok (.getfield 11, 3) := by decide +kernel
theorem dX9_planRefusal_16 : decode cX9_planRefusal 16 = .ok (.iload_n 1, 1) := by decide +kernel
theorem dX9_planRefusal_17 : decode cX9_planRefusal 17 = .ok (.aaload, 1) := by decide +kernel
theorem dX9_planRefusal_18 : decode cX9_planRefusal 18 = .ok (.astore_n 3, 1) := by decide +kernel
theorem dX9_planRefusal_19 : decode cX9_planRefusal 19 = .ok (.aload_n 3, 1) := by decide +kernel
theorem dX9_planRefusal_20 : decode cX9_planRefusal 20 = .ok (.getfield 123, 3) := by decide +kernel
theorem dX9_planRefusal_23 : decode cX9_planRefusal 23 = .ok (.bipush 12, 2) := by decide +kernel
theorem dX9_planRefusal_25 : decode cX9_planRefusal 25 = .ok (.if_icmp .le 9, 3) := by decide +kernel
theorem dX9_planRefusal_28 : decode cX9_planRefusal 28 = .ok (.aload_n 0, 1) := by decide +kernel
theorem dX9_planRefusal_29 : decode cX9_planRefusal 29 = .ok (.iconst 5, 1) := by decide +kernel
theorem dX9_planRefusal_30 : decode cX9_planRefusal 30 = .ok (.invokevirtual 104, 3) := by decide +kernel
theorem dX9_planRefusal_33 : decode cX9_planRefusal 33 = .ok (.ireturn, 1) := by decide +kernel
theorem dX9_planRefusal_34 : decode cX9_planRefusal 34 = .ok (.iconst 0, 1) := by decide +kernel
theorem dX9_planRefusal_35 : decode cX9_planRefusal 35 = .ok (.istore 4, 2) := by decide +kernel
theorem dX9_planRefusal_37 : decode cX9_planRefusal 37 = .ok (.iload 4, 2) := by decide +kernel
theorem dX9_planRefusal_39 : decode cX9_planRefusal 39 = .ok (.aload_n 3, 1) := by decide +kernel
theorem dX9_planRefusal_40 : decode cX9_planRefusal 40 = .ok (.getfield 123, 3) := by decide +kernel
theorem dX9_planRefusal_43 : decode cX9_planRefusal 43 = .ok (.if_icmp .ge 32, 3) := by decide +kernel
theorem dX9_planRefusal_46 : decode cX9_planRefusal 46 = .ok (.aload_n 0, 1) := by decide +kernel
theorem dX9_planRefusal_47 : decode cX9_planRefusal 47 = .ok (.getfield 31, 3) := by decide +kernel
theorem dX9_planRefusal_50 : decode cX9_planRefusal 50 = .ok (.aload_n 3, 1) := by decide +kernel
theorem dX9_planRefusal_51 : decode cX9_planRefusal 51 = .ok (.getfield 116, 3) := by decide +kernel
theorem dX9_planRefusal_54 : decode cX9_planRefusal 54 = .ok (.iload 4, 2) := by decide +kernel
theorem dX9_planRefusal_56 : decode cX9_planRefusal 56 = .ok (.iaload, 1) := by decide +kernel
theorem dX9_planRefusal_57 : decode cX9_planRefusal 57 = .ok (.invokevirtual 180, 3) := by decide +kernel
theorem dX9_planRefusal_60 : decode cX9_planRefusal 60 = .ok (.ifCond .ne 9, 3) := by decide +kernel
theorem dX9_planRefusal_63 : decode cX9_planRefusal 63 = .ok (.aload_n 0, 1) := by decide +kernel
theorem dX9_planRefusal_64 : decode cX9_planRefusal 64 = .ok (.iconst 3, 1) := by decide +kernel
theorem dX9_planRefusal_65 : decode cX9_planRefusal 65 = .ok (.invokevirtual 104, 3) := by decide +kernel
theorem dX9_planRefusal_68 : decode cX9_planRefusal 68 = .ok (.ireturn, 1) := by decide +kernel
theorem dX9_planRefusal_69 : decode cX9_planRefusal 69 = .ok (.iinc 4 1, 3) := by decide +kernel
theorem dX9_planRefusal_72 : decode cX9_planRefusal 72 = .ok (.goto (-35), 3) := by decide +kernel
theorem dX9_planRefusal_75 : decode cX9_planRefusal 75 = .ok (.iconst 0, 1) := by decide +kernel
theorem dX9_planRefusal_76 : decode cX9_planRefusal 76 = .ok (.ireturn, 1) := by decide +kernel
theorem dX9_minutesRefusal_0 : decode cX9_minutesRefusal 0 = .ok (.aload_n 0, 1) := by decide +kernel
theorem dX9_minutesRefusal_1 : decode cX9_minutesRefusal 1 = .ok (.iload_n 1, 1) := by decide +kernel
theorem dX9_minutesRefusal_2 : decode cX9_minutesRefusal 2 = .ok (.invokevirtual 282, 3) := by decide +kernel
theorem dX9_minutesRefusal_5 : decode cX9_minutesRefusal 5 = .ok (.istore_n 2, 1) := by decide +kernel
theorem dX9_minutesRefusal_6 : decode cX9_minutesRefusal 6 = .ok (.iload_n 2, 1) := by decide +kernel
theorem dX9_minutesRefusal_7 : decode cX9_minutesRefusal 7 = .ok (.ifCond .eq 5, 3) := by decide +kernel
theorem dX9_minutesRefusal_10 : decode cX9_minutesRefusal 10 = .ok (.iload_n 2, 1) := by decide +kernel
theorem dX9_minutesRefusal_11 : decode cX9_minutesRefusal 11 = .ok (.ireturn, 1) := by decide +kernel
theorem dX9_minutesRefusal_12 : decode cX9_minutesRefusal 12 = .ok (.aload_n 0, 1) := by decide +kernel
theorem dX9_minutesRefusal_13 : decode cX9_minutesRefusal 13 = .ok (.getfield 11, 3) := by decide +kernel
theorem dX9_minutesRefusal_16 : decode cX9_minutesRefusal 16 = .ok (.iload_n 1, 1) := by decide +kernel
theorem dX9_minutesRefusal_17 : decode cX9_minutesRefusal 17 = .ok (.aaload, 1) := by decide +kernel
theorem dX9_minutesRefusal_18 : decode cX9_minutesRefusal 18 = .ok (.getfield 123, 3) := by decide +kernel
theorem dX9_minutesRefusal_21 : decode cX9_minutesRefusal 21 = .ok (.iconst 3, 1) := by decide +kernel
theorem dX9_minutesRefusal_22 : decode cX9_minutesRefusal 22 = .ok (.if_icmp .le 11, 3) := by decide +kernel
theorem dX9_minutesRefusal_25 : decode cX9_minutesRefusal 25 = .ok (.aload_n 0, 1) := by decide +kernel
theorem dX9_minutesRefusal_26 : decode cX9_minutesRefusal 26 = .ok (.iconst 5, 1) := by decide +kernel
theorem dX9_minutesRefusal_27 : decode cX9_minutesRefusal 27 = .ok (.invokevirtual 104, 3) := by decide +kernel
theorem dX9_minutesRefusal_30 : decode cX9_minutesRefusal 30 = .ok (.goto 4, 3) := by decide +kernel
theorem dX9_minutesRefusal_33 : decode cX9_minutesRefusal 33 = .ok (.iconst 0, 1) := by decide +kernel
theorem dX9_minutesRefusal_34 : decode cX9_minutesRefusal 34 = .ok (.ireturn, 1) := by decide +kernel
theorem dX9_trueHour_0 : decode cX9_trueHour 0 = .ok (.aload_n 0, 1) := by decide +kernel
theorem dX9_trueHour_1 : decode cX9_trueHour 1 = .ok (.getfield 45, 3) := by decide +kernel
theorem dX9_trueHour_4 : decode cX9_trueHour 4 = .ok (.aload_n 0, 1) := by decide +kernel
theorem dX9_trueHour_5 : decode cX9_trueHour 5 = .ok (.getfield 38, 3) := by decide +kernel
theorem dX9_trueHour_8 : decode cX9_trueHour 8 = .ok (.invokevirtual 189, 3) := by decide +kernel
theorem dX9_trueHour_11 : decode cX9_trueHour 11 = .ok (.aload_n 0, 1) := by decide +kernel
theorem dX9_trueHour_12 : decode cX9_trueHour 12 = .ok (.getfield 38, 3) := by decide +kernel
theorem dX9_trueHour_15 : decode cX9_trueHour 15 = .ok (.aload_n 0, 1) := by decide +kernel
theorem dX9_trueHour_16 : decode cX9_trueHour 16 = .ok (.getfield 31, 3) := by decide +kernel
theorem dX9_trueHour_19 : decode cX9_trueHour 19 = .ok (.invokevirtual 325, 3) := by decide +kernel
theorem dX9_trueHour_22 : decode cX9_trueHour 22 = .ok (.aload_n 0, 1) := by decide +kernel
theorem dX9_trueHour_23 : decode cX9_trueHour 23 = .ok (.getfield 38, 3) := by decide +kernel
theorem dX9_trueHour_26 : decode cX9_trueHour 26 = .ok (.aload_n 0, 1) := by decide +kernel
theorem dX9_trueHour_27 : decode cX9_trueHour 27 = .ok (.getfield 31, 3) := by decide +kernel
theorem dX9_trueHour_30 : decode cX9_trueHour 30 = .ok (.iload_n 1, 1) := by decide +kernel
theorem dX9_trueHour_31 : decode cX9_trueHour 31 = .ok (.invokevirtual 329, 3) := by decide +kernel
theorem dX9_trueHour_34 : decode cX9_trueHour 34 = .ok (.ireturn, 1) := by decide +kernel
theorem dX9_factOfCape_0 : decode cX9_factOfCape 0 = .ok (.iload_n 2, 1) := by decide +kernel
theorem dX9_factOfCape_1 : decode cX9_factOfCape 1 = .ok (.tableswitch 62 0 2 #[27, 37, 49], 27) := by decide +kernel
theorem dX9_factOfCape_28 : decode cX9_factOfCape 28 = .ok (.aload_n 0, 1) := by decide +kernel
theorem dX9_factOfCape_29 : decode cX9_factOfCape 29 = .ok (.getfield 31, 3) := by decide +kernel
theorem dX9_factOfCape_32 : decode cX9_factOfCape 32 = .ok (.getfield 333, 3) := by decide +kernel
theorem dX9_factOfCape_35 : decode cX9_factOfCape 35 = .ok (.iload_n 1, 1) := by decide +kernel
theorem dX9_factOfCape_36 : decode cX9_factOfCape 36 = .ok (.iaload, 1) := by decide +kernel
theorem dX9_factOfCape_37 : decode cX9_factOfCape 37 = .ok (.ireturn, 1) := by decide +kernel
theorem dX9_factOfCape_38 : decode cX9_factOfCape 38 = .ok (.aload_n 0, 1) := by decide +kernel
theorem dX9_factOfCape_39 : decode cX9_factOfCape 39 = .ok (.getfield 38, 3) := by decide +kernel
theorem dX9_factOfCape_42 : decode cX9_factOfCape 42 = .ok (.getfield 193, 3) := by decide +kernel
theorem dX9_factOfCape_45 : decode cX9_factOfCape 45 = .ok (.iconst 2, 1) := by decide +kernel
theorem dX9_factOfCape_46 : decode cX9_factOfCape 46 = .ok (.iload_n 1, 1) := by decide +kernel
theorem dX9_factOfCape_47 : decode cX9_factOfCape 47 = .ok (.iadd, 1) := by decide +kernel
theorem dX9_factOfCape_48 : decode cX9_factOfCape 48 = .ok (.iaload, 1) := by decide +kernel
theorem dX9_factOfCape_49 : decode cX9_factOfCape 49 = .ok (.ireturn, 1) := by decide +kernel
theorem dX9_factOfCape_50 : decode cX9_factOfCape 50 = .ok (.aload_n 0, 1) := by decide +kernel
theorem dX9_factOfCape_51 : decode cX9_factOfCape 51 = .ok (.getfield 38, 3) := by decide +kernel
theorem dX9_factOfCape_54 : decode cX9_factOfCape 54 = .ok (.getfield 193, 3) := by decide +kernel
theorem dX9_factOfCape_57 : decode cX9_factOfCape 57 = .ok (.bipush 7, 2) := by decide +kernel
theorem dX9_factOfCape_59 : decode cX9_factOfCape 59 = .ok (.iload_n 1, 1) := by decide +kernel
theorem dX9_factOfCape_60 : decode cX9_factOfCape 60 = .ok (.iadd, 1) := by decide +kernel
theorem dX9_factOfCape_61 : decode cX9_factOfCape 61 = .ok (.iaload, 1) := by decide +kernel
theorem dX9_factOfCape_62 : decode cX9_factOfCape 62 = .ok (.ireturn, 1) := by decide +kernel
theorem dX9_factOfCape_63 : decode cX9_factOfCape 63 = .ok (.aload_n 0, 1) := by decide +kernel
theorem dX9_factOfCape_64 : decode cX9_factOfCape 64 = .ok (.getfield 38, 3) := by decide +kernel
theorem dX9_factOfCape_67 : decode cX9_factOfCape 67 = .ok (.aload_n 0, 1) := by decide +kernel
theorem dX9_factOfCape_68 : decode cX9_factOfCape 68 = .ok (.getfield 31, 3) := by decide +kernel
theorem dX9_factOfCape_71 : decode cX9_factOfCape 71 = .ok (.invokevirtual 336, 3) := by decide +kernel
theorem dX9_factOfCape_74 : decode cX9_factOfCape 74 = .ok (.aload_n 0, 1) := by decide +kernel
theorem dX9_factOfCape_75 : decode cX9_factOfCape 75 = .ok (.getfield 31, 3) := by decide +kernel
theorem dX9_factOfCape_78 : decode cX9_factOfCape 78 = .ok (.aload_n 0, 1) := by decide +kernel
theorem dX9_factOfCape_79 : decode cX9_factOfCape 79 = .ok (.getfield 38, 3) := by decide +kernel
theorem dX9_factOfCape_82 : decode cX9_factOfCape 82 = .ok (.getfield 339, 3) := by decide +kernel
theorem dX9_factOfCape_85 : decode cX9_factOfCape 85 = .ok (.iconst 1, 1) := by decide +kernel
theorem dX9_factOfCape_86 : decode cX9_factOfCape 86 = .ok (.iload_n 1, 1) := by decide +kernel
theorem dX9_factOfCape_87 : decode cX9_factOfCape 87 = .ok (.ishl, 1) := by decide +kernel
theorem dX9_factOfCape_88 : decode cX9_factOfCape 88 = .ok (.iand, 1) := by decide +kernel
theorem dX9_factOfCape_89 : decode cX9_factOfCape 89 = .ok (.invokevirtual 262, 3) := by decide +kernel
theorem dX9_factOfCape_92 : decode cX9_factOfCape 92 = .ok (.ireturn, 1) := by decide +kernel
theorem dX9_factOfValley_0 : decode cX9_factOfValley 0 = .ok (.iload_n 2, 1) := by decide +kernel
theorem dX9_factOfValley_1 : decode cX9_factOfValley 1 = .ok (.tableswitch 71 0 3 #[31, 41, 51, 61], 31) := by decide +kernel
theorem dX9_factOfValley_32 : decode cX9_factOfValley 32 = .ok (.aload_n 0, 1) := by decide +kernel
theorem dX9_factOfValley_33 : decode cX9_factOfValley 33 = .ok (.getfield 31, 3) := by decide +kernel
theorem dX9_factOfValley_36 : decode cX9_factOfValley 36 = .ok (.getfield 342, 3) := by decide +kernel
theorem dX9_factOfValley_39 : decode cX9_factOfValley 39 = .ok (.iload_n 1, 1) := by decide +kernel
theorem dX9_factOfValley_40 : decode cX9_factOfValley 40 = .ok (.iaload, 1) := by decide +kernel
theorem dX9_factOfValley_41 : decode cX9_factOfValley 41 = .ok (.ireturn, 1) := by decide +kernel
theorem dX9_factOfValley_42 : decode cX9_factOfValley 42 = .ok (.aload_n 0, 1) := by decide +kernel
theorem dX9_factOfValley_43 : decode cX9_factOfValley 43 = .ok (.getfield 31, 3) := by decide +kernel
theorem dX9_factOfValley_46 : decode cX9_factOfValley 46 = .ok (.getfield 345, 3) := by decide +kernel
theorem dX9_factOfValley_49 : decode cX9_factOfValley 49 = .ok (.iload_n 1, 1) := by decide +kernel
theorem dX9_factOfValley_50 : decode cX9_factOfValley 50 = .ok (.iaload, 1) := by decide +kernel
theorem dX9_factOfValley_51 : decode cX9_factOfValley 51 = .ok (.ireturn, 1) := by decide +kernel
theorem dX9_factOfValley_52 : decode cX9_factOfValley 52 = .ok (.aload_n 0, 1) := by decide +kernel
theorem dX9_factOfValley_53 : decode cX9_factOfValley 53 = .ok (.getfield 31, 3) := by decide +kernel
theorem dX9_factOfValley_56 : decode cX9_factOfValley 56 = .ok (.getfield 348, 3) := by decide +kernel
theorem dX9_factOfValley_59 : decode cX9_factOfValley 59 = .ok (.iload_n 1, 1) := by decide +kernel
theorem dX9_factOfValley_60 : decode cX9_factOfValley 60 = .ok (.iaload, 1) := by decide +kernel
theorem dX9_factOfValley_61 : decode cX9_factOfValley 61 = .ok (.ireturn, 1) := by decide +kernel
theorem dX9_factOfValley_62 : decode cX9_factOfValley 62 = .ok (.aload_n 0, 1) := by decide +kernel
theorem dX9_factOfValley_63 : decode cX9_factOfValley 63 = .ok (.getfield 31, 3) := by decide +kernel
theorem dX9_factOfValley_66 : decode cX9_factOfValley 66 = .ok (.getfield 177, 3) := by decide +kernel
theorem dX9_factOfValley_69 : decode cX9_factOfValley 69 = .ok (.iload_n 1, 1) := by decide +kernel
theorem dX9_factOfValley_70 : decode cX9_factOfValley 70 = .ok (.iaload, 1) := by decide +kernel
theorem dX9_factOfValley_71 : decode cX9_factOfValley 71 = .ok (.ireturn, 1) := by decide +kernel
theorem dX9_factOfValley_72 : decode cX9_factOfValley 72 = .ok (.aload_n 0, 1) := by decide +kernel
theorem dX9_factOfValley_73 : decode cX9_factOfValley 73 = .ok (.getfield 38, 3) := by decide +kernel
theorem dX9_factOfValley_76 : decode cX9_factOfValley 76 = .ok (.getfield 193, 3) := by decide +kernel
theorem dX9_factOfValley_79 : decode cX9_factOfValley 79 = .ok (.bipush 12, 2) := by decide +kernel
theorem dX9_factOfValley_81 : decode cX9_factOfValley 81 = .ok (.iload_n 1, 1) := by decide +kernel
theorem dX9_factOfValley_82 : decode cX9_factOfValley 82 = .ok (.iadd, 1) := by decide +kernel
theorem dX9_factOfValley_83 : decode cX9_factOfValley 83 = .ok (.iaload, 1) := by decide +kernel
theorem dX9_factOfValley_84 : decode cX9_factOfValley 84 = .ok (.ireturn, 1) := by decide +kernel
theorem dX9_markOf_0 : decode cX9_markOf 0 = .ok (.iload_n 2, 1) := by decide +kernel
theorem dX9_markOf_1 : decode cX9_markOf 1 = .ok (.tableswitch 115 1 4 #[31, 57, 78, 95], 31) := by decide +kernel
theorem dX9_markOf_32 : decode cX9_markOf 32 = .ok (.aload_n 0, 1) := by decide +kernel
theorem dX9_markOf_33 : decode cX9_markOf 33 = .ok (.getfield 38, 3) := by decide +kernel
theorem dX9_markOf_36 : decode cX9_markOf 36 = .ok (.invokevirtual 196, 3) := by decide +kernel
theorem dX9_markOf_39 : decode cX9_markOf 39 = .ok (.ifCond .ne 17, 3) := by decide +kernel
theorem dX9_markOf_42 : decode cX9_markOf 42 = .ok (.aload_n 0, 1) := by decide +kernel
theorem dX9_markOf_43 : decode cX9_markOf 43 = .ok (.getfield 38, 3) := by decide +kernel
theorem dX9_markOf_46 : decode cX9_markOf 46 = .ok (.invokevirtual 351, 3) := by decide +kernel
theorem dX9_markOf_49 : decode cX9_markOf 49 = .ok (.ifCond .eq 7, 3) := by decide +kernel
theorem dX9_markOf_52 : decode cX9_markOf 52 = .ok (.iconst 1, 1) := by decide +kernel
theorem dX9_markOf_53 : decode cX9_markOf 53 = .ok (.goto 4, 3) := by decide +kernel
theorem dX9_markOf_56 : decode cX9_markOf 56 = .ok (.iconst 0, 1) := by decide +kernel
theorem dX9_markOf_57 : decode cX9_markOf 57 = .ok (.ireturn, 1) := by decide +kernel
theorem dX9_markOf_58 : decode cX9_markOf 58 = .ok (.aload_n 0, 1) := by decide +kernel
theorem dX9_markOf_59 : decode cX9_markOf 59 = .ok (.getfield 31, 3) := by decide +kernel
theorem dX9_markOf_62 : decode cX9_markOf 62 = .ok (.getfield 156, 3) := by decide +kernel
theorem dX9_markOf_65 : decode cX9_markOf 65 = .ok (.aload_n 0, 1) := by decide +kernel
theorem dX9_markOf_66 : decode cX9_markOf 66 = .ok (.getfield 31, 3) := by decide +kernel
theorem dX9_markOf_69 : decode cX9_markOf 69 = .ok (.getfield 171, 3) := by decide +kernel
theorem dX9_markOf_72 : decode cX9_markOf 72 = .ok (.iconst 2, 1) := by decide +kernel
theorem dX9_markOf_73 : decode cX9_markOf 73 = .ok (.iaload, 1) := by decide +kernel
theorem dX9_markOf_74 : decode cX9_markOf 74 = .ok (.invokestatic 273, 3) := by decide +kernel
theorem dX9_markOf_77 : decode cX9_markOf 77 = .ok (.isub, 1) := by decide +kernel
theorem dX9_markOf_78 : decode cX9_markOf 78 = .ok (.ireturn, 1) := by decide +kernel
theorem dX9_markOf_79 : decode cX9_markOf 79 = .ok (.iconst 0, 1) := by decide +kernel
theorem dX9_markOf_80 : decode cX9_markOf 80 = .ok (.bipush 24, 2) := by decide +kernel
theorem dX9_markOf_82 : decode cX9_markOf 82 = .ok (.aload_n 0, 1) := by decide +kernel
theorem dX9_markOf_83 : decode cX9_markOf 83 = .ok (.getfield 38, 3) := by decide +kernel
theorem dX9_markOf_86 : decode cX9_markOf 86 = .ok (.getfield 193, 3) := by decide +kernel
theorem dX9_markOf_89 : decode cX9_markOf 89 = .ok (.iconst 0, 1) := by decide +kernel
theorem dX9_markOf_90 : decode cX9_markOf 90 = .ok (.iaload, 1) := by decide +kernel
theorem dX9_markOf_91 : decode cX9_markOf 91 = .ok (.isub, 1) := by decide +kernel
theorem dX9_markOf_92 : decode cX9_markOf 92 = .ok (.invokestatic 354, 3) := by decide +kernel
theorem dX9_markOf_95 : decode cX9_markOf 95 = .ok (.ireturn, 1) := by decide +kernel
theorem dX9_markOf_96 : decode cX9_markOf 96 = .ok (.bipush 9, 2) := by decide +kernel
theorem dX9_markOf_98 : decode cX9_markOf 98 = .ok (.aload_n 0, 1) := by decide +kernel
theorem dX9_markOf_99 : decode cX9_markOf 99 = .ok (.getfield 38, 3) := by decide +kernel
theorem dX9_markOf_102 : decode cX9_markOf 102 = .ok (.getfield 193, 3) := by decide +kernel
theorem dX9_markOf_105 : decode cX9_markOf 105 = .ok (.bipush 7, 2) := by decide +kernel
theorem dX9_markOf_107 : decode cX9_markOf 107 = .ok (.iload_n 1, 1) := by decide +kernel
theorem dX9_markOf_108 : decode cX9_markOf 108 = .ok (.iadd, 1) := by decide +kernel
theorem dX9_markOf_109 : decode cX9_markOf 109 = .ok (.iaload, 1) := by decide +kernel
theorem dX9_markOf_110 : decode cX9_markOf 110 = .ok (.isub, 1) := by decide +kernel
theorem dX9_markOf_111 : decode cX9_markOf 111 = .ok (.iconst 1, 1) := by decide +kernel
theorem dX9_markOf_112 : decode cX9_markOf 112 = .ok (.iadd, 1) := by decide +kernel
theorem dX9_markOf_113 : decode cX9_markOf 113 = .ok (.iconst 2, 1) := by decide +kernel
theorem dX9_markOf_114 : decode cX9_markOf 114 = .ok (.idiv, 1) := by decide +kernel
theorem dX9_markOf_115 : decode cX9_markOf 115 = .ok (.ireturn, 1) := by decide +kernel
theorem dX9_markOf_116 : decode cX9_markOf 116 = .ok (.aload_n 0, 1) := by decide +kernel
theorem dX9_markOf_117 : decode cX9_markOf 117 = .ok (.getfield 38, 3) := by decide +kernel
theorem dX9_markOf_120 : decode cX9_markOf 120 = .ok (.getfield 193, 3) := by decide +kernel
theorem dX9_markOf_123 : decode cX9_markOf 123 = .ok (.bipush 7, 2) := by decide +kernel
theorem dX9_markOf_125 : decode cX9_markOf 125 = .ok (.iload_n 1, 1) := by decide +kernel
theorem dX9_markOf_126 : decode cX9_markOf 126 = .ok (.iadd, 1) := by decide +kernel
theorem dX9_markOf_127 : decode cX9_markOf 127 = .ok (.iaload, 1) := by decide +kernel
theorem dX9_markOf_128 : decode cX9_markOf 128 = .ok (.iconst 1, 1) := by decide +kernel
theorem dX9_markOf_129 : decode cX9_markOf 129 = .ok (.if_icmp .lt 17, 3) := by decide +kernel
theorem dX9_markOf_132 : decode cX9_markOf 132 = .ok (.aload_n 0, 1) := by decide +kernel
theorem dX9_markOf_133 : decode cX9_markOf 133 = .ok (.getfield 38, 3) := by decide +kernel
theorem dX9_markOf_136 : decode cX9_markOf 136 = .ok (.getfield 193, 3) := by decide +kernel
theorem dX9_markOf_139 : decode cX9_markOf 139 = .ok (.iconst 2, 1) := by decide +kernel
theorem dX9_markOf_140 : decode cX9_markOf 140 = .ok (.iload_n 1, 1) := by decide +kernel
theorem dX9_markOf_141 : decode cX9_markOf 141 = .ok (.iadd, 1) := by decide +kernel
theorem dX9_markOf_142 : decode cX9_markOf 142 = .ok (.iaload, 1) := by decide +kernel
theorem dX9_markOf_143 : decode cX9_markOf 143 = .ok (.goto 4, 3) := by decide +kernel
theorem dX9_markOf_146 : decode cX9_markOf 146 = .ok (.iconst 0, 1) := by decide +kernel
theorem dX9_markOf_147 : decode cX9_markOf 147 = .ok (.ireturn, 1) := by decide +kernel
theorem dX9_countOf_0 : decode cX9_countOf 0 = .ok (.iload_n 1, 1) := by decide +kernel
theorem dX9_countOf_1 : decode cX9_countOf 1 = .ok (.tableswitch 132 0 7 #[47, 55, 63, 71, 93, 109, 122, 127], 47) := by decide +kernel
theorem dX9_countOf_48 : decode cX9_countOf 48 = .ok (.aload_n 0, 1) := by decide +kernel
theorem dX9_countOf_49 : decode cX9_countOf 49 = .ok (.getfield 31, 3) := by decide +kernel
theorem dX9_countOf_52 : decode cX9_countOf 52 = .ok (.getfield 156, 3) := by decide +kernel
theorem dX9_countOf_55 : decode cX9_countOf 55 = .ok (.ireturn, 1) := by decide +kernel
theorem dX9_countOf_56 : decode cX9_countOf 56 = .ok (.aload_n 0, 1) := by decide +kernel
theorem dX9_countOf_57 : decode cX9_countOf 57 = .ok (.getfield 31, 3) := by decide +kernel
theorem dX9_countOf_60 : decode cX9_countOf 60 = .ok (.getfield 208, 3) := by decide +kernel
theorem dX9_countOf_63 : decode cX9_countOf 63 = .ok (.ireturn, 1) := by decide +kernel
theorem dX9_countOf_64 : decode cX9_countOf 64 = .ok (.aload_n 0, 1) := by decide +kernel
theorem dX9_countOf_65 : decode cX9_countOf 65 = .ok (.getfield 45, 3) := by decide +kernel
theorem dX9_countOf_68 : decode cX9_countOf 68 = .ok (.getfield 97, 3) := by decide +kernel
theorem dX9_countOf_71 : decode cX9_countOf 71 = .ok (.ireturn, 1) := by decide +kernel
theorem dX9_countOf_72 : decode cX9_countOf 72 = .ok (.aload_n 0, 1) := by decide +kernel
theorem dX9_countOf_73 : decode cX9_countOf 73 = .ok (.getfield 38, 3) := by decide +kernel
theorem dX9_countOf_76 : decode cX9_countOf 76 = .ok (.aload_n 0, 1) := by decide +kernel
theorem dX9_countOf_77 : decode cX9_countOf 77 = .ok (.getfield 31, 3) := by decide +kernel
theorem dX9_countOf_80 : decode cX9_countOf 80 = .ok (.invokevirtual 336, 3) := by decide +kernel
theorem dX9_countOf_83 : decode cX9_countOf 83 = .ok (.aload_n 0, 1) := by decide +kernel
theorem dX9_countOf_84 : decode cX9_countOf 84 = .ok (.getfield 38, 3) := by decide +kernel
theorem dX9_countOf_87 : decode cX9_countOf 87 = .ok (.getfield 339, 3) := by decide +kernel
theorem dX9_countOf_90 : decode cX9_countOf 90 = .ok (.invokestatic 273, 3) := by decide +kernel
theorem dX9_countOf_93 : decode cX9_countOf 93 = .ok (.ireturn, 1) := by decide +kernel
theorem dX9_countOf_94 : decode cX9_countOf 94 = .ok (.aload_n 0, 1) := by decide +kernel
theorem dX9_countOf_95 : decode cX9_countOf 95 = .ok (.getfield 38, 3) := by decide +kernel
theorem dX9_countOf_98 : decode cX9_countOf 98 = .ok (.invokevirtual 196, 3) := by decide +kernel
theorem dX9_countOf_101 : decode cX9_countOf 101 = .ok (.ifCond .eq 7, 3) := by decide +kernel
theorem dX9_countOf_104 : decode cX9_countOf 104 = .ok (.iconst 1, 1) := by decide +kernel
theorem dX9_countOf_105 : decode cX9_countOf 105 = .ok (.goto 4, 3) := by decide +kernel
theorem dX9_countOf_108 : decode cX9_countOf 108 = .ok (.iconst 0, 1) := by decide +kernel
theorem dX9_countOf_109 : decode cX9_countOf 109 = .ok (.ireturn, 1) := by decide +kernel
theorem dX9_countOf_110 : decode cX9_countOf 110 = .ok (.aload_n 0, 1) := by decide +kernel
theorem dX9_countOf_111 : decode cX9_countOf 111 = .ok (.getfield 31, 3) := by decide +kernel
theorem dX9_countOf_114 : decode cX9_countOf 114 = .ok (.getfield 171, 3) := by decide +kernel
theorem dX9_countOf_117 : decode cX9_countOf 117 = .ok (.iconst 2, 1) := by decide +kernel
theorem dX9_countOf_118 : decode cX9_countOf 118 = .ok (.iaload, 1) := by decide +kernel
theorem dX9_countOf_119 : decode cX9_countOf 119 = .ok (.invokestatic 273, 3) := by decide +kernel
theorem dX9_countOf_122 : decode cX9_countOf 122 = .ok (.ireturn, 1) := by decide +kernel
theorem dX9_countOf_123 : decode cX9_countOf 123 = .ok (.aload_n 0, 1) := by decide +kernel
theorem dX9_countOf_124 : decode cX9_countOf 124 = .ok (.invokevirtual 357, 3) := by decide +kernel
theorem dX9_countOf_127 : decode cX9_countOf 127 = .ok (.ireturn, 1) := by decide +kernel
theorem dX9_countOf_128 : decode cX9_countOf 128 = .ok (.aload_n 0, 1) := by decide +kernel
theorem dX9_countOf_129 : decode cX9_countOf 129 = .ok (.invokevirtual 360, 3) := by decide +kernel
theorem dX9_countOf_132 : decode cX9_countOf 132 = .ok (.ireturn, 1) := by decide +kernel
theorem dX9_countOf_133 : decode cX9_countOf 133 = .ok (.aload_n 0, 1) := by decide +kernel
theorem dX9_countOf_134 : decode cX9_countOf 134 = .ok (.invokevirtual 363, 3) := by decide +kernel
theorem dX9_countOf_137 : decode cX9_countOf 137 = .ok (.ireturn, 1) := by decide +kernel
theorem dX9_rowsThere_0 : decode cX9_rowsThere 0 = .ok (.iconst 0, 1) := by decide +kernel
theorem dX9_rowsThere_1 : decode cX9_rowsThere 1 = .ok (.istore_n 1, 1) := by decide +kernel
theorem dX9_rowsThere_2 : decode cX9_rowsThere 2 = .ok (.iconst 0, 1) := by decide +kernel
theorem dX9_rowsThere_3 : decode cX9_rowsThere 3 = .ok (.istore_n 2, 1) := by decide +kernel
theorem dX9_rowsThere_4 : decode cX9_rowsThere 4 = .ok (.iload_n 2, 1) := by decide +kernel
theorem dX9_rowsThere_5 : decode cX9_rowsThere 5 = .ok (.bipush 6, 2) := by decide +kernel
theorem dX9_rowsThere_7 : decode cX9_rowsThere 7 = .ok (.if_icmp .ge 29, 3) := by decide +kernel
theorem dX9_rowsThere_10 : decode cX9_rowsThere 10 = .ok (.iload_n 1, 1) := by decide +kernel
theorem dX9_rowsThere_11 : decode cX9_rowsThere 11 = .ok (.aload_n 0, 1) := by decide +kernel
theorem dX9_rowsThere_12 : decode cX9_rowsThere 12 = .ok (.getfield 11, 3) := by decide +kernel
theorem dX9_rowsThere_15 : decode cX9_rowsThere 15 = .ok (.iload_n 2, 1) := by decide +kernel
theorem dX9_rowsThere_16 : decode cX9_rowsThere 16 = .ok (.aaload, 1) := by decide +kernel
theorem dX9_rowsThere_17 : decode cX9_rowsThere 17 = .ok (.invokevirtual 119, 3) := by decide +kernel
theorem dX9_rowsThere_20 : decode cX9_rowsThere 20 = .ok (.ifCond .eq 7, 3) := by decide +kernel
theorem dX9_rowsThere_23 : decode cX9_rowsThere 23 = .ok (.iconst 1, 1) := by decide +kernel
theorem dX9_rowsThere_24 : decode cX9_rowsThere 24 = .ok (.goto 4, 3) := by decide +kernel
theorem dX9_rowsThere_27 : decode cX9_rowsThere 27 = .ok (.iconst 0, 1) := by decide +kernel
theorem dX9_rowsThere_28 : decode cX9_rowsThere 28 = .ok (.iadd, 1) := by decide +kernel
theorem dX9_rowsThere_29 : decode cX9_rowsThere 29 = .ok (.istore_n 1, 1) := by decide +kernel
theorem dX9_rowsThere_30 : decode cX9_rowsThere 30 = .ok (.iinc 2 1, 3) := by decide +kernel
theorem dX9_rowsThere_33 : decode cX9_rowsThere 33 = .ok (.goto (-29), 3) := by decide +kernel
theorem dX9_rowsThere_36 : decode cX9_rowsThere 36 = .ok (.iload_n 1, 1) := by decide +kernel
theorem dX9_rowsThere_37 : decode cX9_rowsThere 37 = .ok (.ireturn, 1) := by decide +kernel
theorem dX9_textsThere_0 : decode cX9_textsThere 0 = .ok (.iconst 0, 1) := by decide +kernel
theorem dX9_textsThere_1 : decode cX9_textsThere 1 = .ok (.istore_n 1, 1) := by decide +kernel
theorem dX9_textsThere_2 : decode cX9_textsThere 2 = .ok (.iconst 0, 1) := by decide +kernel
theorem dX9_textsThere_3 : decode cX9_textsThere 3 = .ok (.istore_n 2, 1) := by decide +kernel
theorem dX9_textsThere_4 : decode cX9_textsThere 4 = .ok (.iload_n 2, 1) := by decide +kernel
theorem dX9_textsThere_5 : decode cX9_textsThere 5 = .ok (.iconst 4, 1) := by decide +kernel
theorem dX9_textsThere_6 : decode cX9_textsThere 6 = .ok (.if_icmp .ge 29, 3) := by decide +kernel
theorem dX9_textsThere_9 : decode cX9_textsThere 9 = .ok (.iload_n 1, 1) := by decide +kernel
theorem dX9_textsThere_10 : decode cX9_textsThere 10 = .ok (.aload_n 0, 1) := by decide +kernel
theorem dX9_textsThere_11 : decode cX9_textsThere 11 = .ok (.getfield 17, 3) := by decide +kernel
theorem dX9_textsThere_14 : decode cX9_textsThere 14 = .ok (.iload_n 2, 1) := by decide +kernel
theorem dX9_textsThere_15 : decode cX9_textsThere 15 = .ok (.aaload, 1) := by decide +kernel
theorem dX9_textsThere_16 : decode cX9_textsThere 16 = .ok (.invokevirtual 142, 3) := by decide +kernel
theorem dX9_textsThere_19 : decode cX9_textsThere 19 = .ok (.ifCond .eq 7, 3) := by decide +kernel
theorem dX9_textsThere_22 : decode cX9_textsThere 22 = .ok (.iconst 1, 1) := by decide +kernel
theorem dX9_textsThere_23 : decode cX9_textsThere 23 = .ok (.goto 4, 3) := by decide +kernel
theorem dX9_textsThere_26 : decode cX9_textsThere 26 = .ok (.iconst 0, 1) := by decide +kernel
theorem dX9_textsThere_27 : decode cX9_textsThere 27 = .ok (.iadd, 1) := by decide +kernel
theorem dX9_textsThere_28 : decode cX9_textsThere 28 = .ok (.istore_n 1, 1) := by decide +kernel
theorem dX9_textsThere_29 : decode cX9_textsThere 29 = .ok (.iinc 2 1, 3) := by decide +kernel
theorem dX9_textsThere_32 : decode cX9_textsThere 32 = .ok (.goto (-28), 3) := by decide +kernel
theorem dX9_textsThere_35 : decode cX9_textsThere 35 = .ok (.iload_n 1, 1) := by decide +kernel
theorem dX9_textsThere_36 : decode cX9_textsThere 36 = .ok (.ireturn, 1) := by decide +kernel
theorem dX9_yearsKept_0 : decode cX9_yearsKept 0 = .ok (.iconst 0, 1) := by decide +kernel
theorem dX9_yearsKept_1 : decode cX9_yearsKept 1 = .ok (.istore_n 1, 1) := by decide +kernel
theorem dX9_yearsKept_2 : decode cX9_yearsKept 2 = .ok (.iconst 0, 1) := by decide +kernel
theorem dX9_yearsKept_3 : decode cX9_yearsKept 3 = .ok (.istore_n 2, 1) := by decide +kernel
theorem dX9_yearsKept_4 : decode cX9_yearsKept 4 = .ok (.iload_n 2, 1) := by decide +kernel
theorem dX9_yearsKept_5 : decode cX9_yearsKept 5 = .ok (.iconst 3, 1) := by decide +kernel
theorem dX9_yearsKept_6 : decode cX9_yearsKept 6 = .ok (.if_icmp .ge 30, 3) := by decide +kernel
theorem dX9_yearsKept_9 : decode cX9_yearsKept 9 = .ok (.iload_n 1, 1) := by decide +kernel
theorem dX9_yearsKept_10 : decode cX9_yearsKept 10 = .ok (.aload_n 0, 1) := by decide +kernel
theorem dX9_yearsKept_11 : decode cX9_yearsKept 11 = .ok (.getfield 49, 3) := by decide +kernel
theorem dX9_yearsKept_14 : decode cX9_yearsKept 14 = .ok (.iload_n 2, 1) := by decide +kernel
theorem dX9_yearsKept_15 : decode cX9_yearsKept 15 = .ok (.aaload, 1) := by decide +kernel
theorem dX9_yearsKept_16 : decode cX9_yearsKept 16 = .ok (.getfield 97, 3) := by decide +kernel
theorem dX9_yearsKept_19 : decode cX9_yearsKept 19 = .ok (.iconst (-1), 1) := by decide +kernel
theorem dX9_yearsKept_20 : decode cX9_yearsKept 20 = .ok (.if_icmp .ne 7, 3) := by decide +kernel
theorem dX9_yearsKept_23 : decode cX9_yearsKept 23 = .ok (.iconst 0, 1) := by decide +kernel
theorem dX9_yearsKept_24 : decode cX9_yearsKept 24 = .ok (.goto 4, 3) := by decide +kernel
theorem dX9_yearsKept_27 : decode cX9_yearsKept 27 = .ok (.iconst 1, 1) := by decide +kernel
theorem dX9_yearsKept_28 : decode cX9_yearsKept 28 = .ok (.iadd, 1) := by decide +kernel
theorem dX9_yearsKept_29 : decode cX9_yearsKept 29 = .ok (.istore_n 1, 1) := by decide +kernel
theorem dX9_yearsKept_30 : decode cX9_yearsKept 30 = .ok (.iinc 2 1, 3) := by decide +kernel
theorem dX9_yearsKept_33 : decode cX9_yearsKept 33 = .ok (.goto (-29), 3) := by decide +kernel
theorem dX9_yearsKept_36 : decode cX9_yearsKept 36 = .ok (.iload_n 1, 1) := by decide +kernel
theorem dX9_yearsKept_37 : decode cX9_yearsKept 37 = .ok (.ireturn, 1) := by decide +kernel
theorem dX9_orderFrom_0 : decode cX9_orderFrom 0 = .ok (.iload_n 1, 1) := by decide +kernel
theorem dX9_orderFrom_1 : decode cX9_orderFrom 1 = .ok (.istore_n 3, 1) := by decide +kernel
theorem dX9_orderFrom_2 : decode cX9_orderFrom 2 = .ok (.iconst 0, 1) := by decide +kernel
theorem dX9_orderFrom_3 : decode cX9_orderFrom 3 = .ok (.istore 4, 2) := by decide +kernel
theorem dX9_orderFrom_5 : decode cX9_orderFrom 5 = .ok (.iload 4, 2) := by decide +kernel
theorem dX9_orderFrom_7 : decode cX9_orderFrom 7 = .ok (.aload_n 0, 1) := by decide +kernel
theorem dX9_orderFrom_8 : decode cX9_orderFrom 8 = .ok (.getfield 31, 3) := by decide +kernel
theorem dX9_orderFrom_11 : decode cX9_orderFrom 11 = .ok (.getfield 156, 3) := by decide +kernel
theorem dX9_orderFrom_14 : decode cX9_orderFrom 14 = .ok (.if_icmp .ge 34, 3) := by decide +kernel
theorem dX9_orderFrom_17 : decode cX9_orderFrom 17 = .ok (.iload_n 2, 1) := by decide +kernel
theorem dX9_orderFrom_18 : decode cX9_orderFrom 18 = .ok (.iload 4, 2) := by decide +kernel
theorem dX9_orderFrom_20 : decode cX9_orderFrom 20 = .ok (.ishr, 1) := by decide +kernel
theorem dX9_orderFrom_21 : decode cX9_orderFrom 21 = .ok (.iconst 1, 1) := by decide +kernel
theorem dX9_orderFrom_22 : decode cX9_orderFrom 22 = .ok (.iand, 1) := by decide +kernel
theorem dX9_orderFrom_23 : decode cX9_orderFrom 23 = .ok (.ifCond .eq 19, 3) := by decide +kernel
theorem dX9_orderFrom_26 : decode cX9_orderFrom 26 = .ok (.iload_n 3, 1) := by decide +kernel
theorem dX9_orderFrom_27 : decode cX9_orderFrom 27 = .ok (.iconst 5, 1) := by decide +kernel
theorem dX9_orderFrom_28 : decode cX9_orderFrom 28 = .ok (.if_icmp .ge 14, 3) := by decide +kernel
theorem dX9_orderFrom_31 : decode cX9_orderFrom 31 = .ok (.aload_n 0, 1) := by decide +kernel
theorem dX9_orderFrom_32 : decode cX9_orderFrom 32 = .ok (.getfield 74, 3) := by decide +kernel
theorem dX9_orderFrom_35 : decode cX9_orderFrom 35 = .ok (.iload_n 3, 1) := by decide +kernel
theorem dX9_orderFrom_36 : decode cX9_orderFrom 36 = .ok (.iload 4, 2) := by decide +kernel
theorem dX9_orderFrom_38 : decode cX9_orderFrom 38 = .ok (.iastore, 1) := by decide +kernel
theorem dX9_orderFrom_39 : decode cX9_orderFrom 39 = .ok (.iinc 3 1, 3) := by decide +kernel
theorem dX9_orderFrom_42 : decode cX9_orderFrom 42 = .ok (.iinc 4 1, 3) := by decide +kernel
theorem dX9_orderFrom_45 : decode cX9_orderFrom 45 = .ok (.goto (-40), 3) := by decide +kernel
theorem dX9_orderFrom_48 : decode cX9_orderFrom 48 = .ok (.iload_n 3, 1) := by decide +kernel
theorem dX9_orderFrom_49 : decode cX9_orderFrom 49 = .ok (.ireturn, 1) := by decide +kernel
theorem dX9_tellChance_0 : decode cX9_tellChance 0 = .ok (.aload_n 0, 1) := by decide +kernel
theorem dX9_tellChance_1 : decode cX9_tellChance 1 = .ok (.iload_n 1, 1) := by decide +kernel
theorem dX9_tellChance_2 : decode cX9_tellChance 2 = .ok (.i2l, 1) := by decide +kernel
theorem dX9_tellChance_3 : decode cX9_tellChance 3 = .ok (.putfield 88, 3) := by decide +kernel
theorem dX9_tellChance_6 : decode cX9_tellChance 6 = .ok (.aload_n 0, 1) := by decide +kernel
theorem dX9_tellChance_7 : decode cX9_tellChance 7 = .ok (.lconst 1, 1) := by decide +kernel
theorem dX9_tellChance_8 : decode cX9_tellChance 8 = .ok (.iload_n 2, 1) := by decide +kernel
theorem dX9_tellChance_9 : decode cX9_tellChance 9 = .ok (.lshl, 1) := by decide +kernel
theorem dX9_tellChance_10 : decode cX9_tellChance 10 = .ok (.putfield 92, 3) := by decide +kernel
theorem dX9_tellChance_13 : decode cX9_tellChance 13 = .ok (.iconst 0, 1) := by decide +kernel
theorem dX9_tellChance_14 : decode cX9_tellChance 14 = .ok (.istore_n 3, 1) := by decide +kernel
theorem dX9_tellChance_15 : decode cX9_tellChance 15 = .ok (.iload_n 3, 1) := by decide +kernel
theorem dX9_tellChance_16 : decode cX9_tellChance 16 = .ok (.iload_n 2, 1) := by decide +kernel
theorem dX9_tellChance_17 : decode cX9_tellChance 17 = .ok (.if_icmp .ge 53, 3) := by decide +kernel
theorem dX9_tellChance_20 : decode cX9_tellChance 20 = .ok (.aload_n 0, 1) := by decide +kernel
theorem dX9_tellChance_21 : decode cX9_tellChance 21 = .ok (.getfield 92, 3) := by decide +kernel
theorem dX9_tellChance_24 : decode cX9_tellChance 24 = .ok (.lconst 1, 1) := by decide +kernel
theorem dX9_tellChance_25 : decode cX9_tellChance 25 = .ok (.lcmp, 1) := by decide +kernel
theorem dX9_tellChance_26 : decode cX9_tellChance 26 = .ok (.ifCond .le 44, 3) := by decide +kernel
theorem dX9_tellChance_29 : decode cX9_tellChance 29 = .ok (.aload_n 0, 1) := by decide +kernel
theorem dX9_tellChance_30 : decode cX9_tellChance 30 = .ok (.getfield 88, 3) := by decide +kernel
theorem dX9_tellChance_33 : decode cX9_tellChance 33 = .ok (.lconst 1, 1) := by decide +kernel
theorem dX9_tellChance_34 : decode cX9_tellChance 34 = .ok (.land, 1) := by decide +kernel
theorem dX9_tellChance_35 : decode cX9_tellChance 35 = .ok (.lconst 0, 1) := by decide +kernel
theorem dX9_tellChance_36 : decode cX9_tellChance 36 = .ok (.lcmp, 1) := by decide +kernel
theorem dX9_tellChance_37 : decode cX9_tellChance 37 = .ok (.ifCond .ne 33, 3) := by decide +kernel
theorem dX9_tellChance_40 : decode cX9_tellChance 40 = .ok (.aload_n 0, 1) := by decide +kernel
theorem dX9_tellChance_41 : decode cX9_tellChance 41 = .ok (.dup, 1) := by decide +kernel
theorem dX9_tellChance_42 : decode cX9_tellChance 42 = .ok (.getfield 88, 3) := by decide +kernel
theorem dX9_tellChance_45 : decode cX9_tellChance 45 = .ok (.ldc2_w 366, 3) := by decide +kernel
theorem dX9_tellChance_48 : decode cX9_tellChance 48 = .ok (.ldiv, 1) := by decide +kernel
theorem dX9_tellChance_49 : decode cX9_tellChance 49 = .ok (.putfield 88, 3) := by decide +kernel
theorem dX9_tellChance_52 : decode cX9_tellChance 52 = .ok (.aload_n 0, 1) := by decide +kernel
theorem dX9_tellChance_53 : decode cX9_tellChance 53 = .ok (.dup, 1) := by decide +kernel
theorem dX9_tellChance_54 : decode cX9_tellChance 54 = .ok (.getfield 92, 3) := by decide +kernel
theorem dX9_tellChance_57 : decode cX9_tellChance 57 = .ok (.ldc2_w 366, 3) := by decide +kernel
theorem dX9_tellChance_60 : decode cX9_tellChance 60 = .ok (.ldiv, 1) := by decide +kernel
theorem dX9_tellChance_61 : decode cX9_tellChance 61 = .ok (.putfield 92, 3) := by decide +kernel
theorem dX9_tellChance_64 : decode cX9_tellChance 64 = .ok (.iinc 3 1, 3) := by decide +kernel
theorem dX9_tellChance_67 : decode cX9_tellChance 67 = .ok (.goto (-52), 3) := by decide +kernel
theorem dX9_tellChance_70 : decode cX9_tellChance 70 = .ok (.return_, 1) := by decide +kernel
theorem dX10_init_0 : decode cX10_init 0 = .ok (.aload_n 0, 1) := by decide +kernel
theorem dX10_init_1 : decode cX10_init 1 = .ok (.invokespecial 1, 3) := by decide +kernel
theorem dX10_init_4 : decode cX10_init 4 = .ok (.aload_n 0, 1) := by decide +kernel
theorem dX10_init_5 : decode cX10_init 5 = .ok (.iconst 5, 1) := by decide +kernel
theorem dX10_init_6 : decode cX10_init 6 = .ok (.newarray .int, 2) := by decide +kernel
theorem dX10_init_8 : decode cX10_init 8 = .ok (.putfield 7, 3) := by decide +kernel
theorem dX10_init_11 : decode cX10_init 11 = .ok (.aload_n 0, 1) := by decide +kernel
theorem dX10_init_12 : decode cX10_init 12 = .ok (.iconst 4, 1) := by decide +kernel
theorem dX10_init_13 : decode cX10_init 13 = .ok (.newarray .int, 2) := by decide +kernel
theorem dX10_init_15 : decode cX10_init 15 = .ok (.putfield 13, 3) := by decide +kernel
theorem dX10_init_18 : decode cX10_init 18 = .ok (.aload_n 0, 1) := by decide +kernel
theorem dX10_init_19 : decode cX10_init 19 = .ok (.iconst 4, 1) := by decide +kernel
theorem dX10_init_20 : decode cX10_init 20 = .ok (.newarray .int, 2) := by decide +kernel
theorem dX10_init_22 : decode cX10_init 22 = .ok (.putfield 16, 3) := by decide +kernel
theorem dX10_init_25 : decode cX10_init 25 = .ok (.aload_n 0, 1) := by decide +kernel
theorem dX10_init_26 : decode cX10_init 26 = .ok (.iconst 4, 1) := by decide +kernel
theorem dX10_init_27 : decode cX10_init 27 = .ok (.newarray .int, 2) := by decide +kernel
theorem dX10_init_29 : decode cX10_init 29 = .ok (.putfield 19, 3) := by decide +kernel
theorem dX10_init_32 : decode cX10_init 32 = .ok (.aload_n 0, 1) := by decide +kernel
theorem dX10_init_33 : decode cX10_init 33 = .ok (.iconst 4, 1) := by decide +kernel
theorem dX10_init_34 : decode cX10_init 34 = .ok (.newarray .int, 2) := by decide +kernel
theorem dX10_init_36 : decode cX10_init 36 = .ok (.putfield 22, 3) := by decide +kernel
theorem dX10_init_39 : decode cX10_init 39 = .ok (.aload_n 0, 1) := by decide +kernel
theorem dX10_init_40 : decode cX10_init 40 = .ok (.bipush 16, 2) := by decide +kernel
theorem dX10_init_42 : decode cX10_init 42 = .ok (.newarray .int, 2) := by decide +kernel
theorem dX10_init_44 : decode cX10_init 44 = .ok (.putfield 25, 3) := by decide +kernel
theorem dX10_init_47 : decode cX10_init 47 = .ok (.aload_n 0, 1) := by decide +kernel
theorem dX10_init_48 : decode cX10_init 48 = .ok (.sipush 960, 3) := by decide +kernel
theorem dX10_init_51 : decode cX10_init 51 = .ok (.newarray .int, 2) := by decide +kernel
theorem dX10_init_53 : decode cX10_init 53 = .ok (.putfield 28, 3) := by decide +kernel
theorem dX10_init_56 : decode cX10_init 56 = .ok (.aload_n 0, 1) := by decide +kernel
theorem dX10_init_57 : decode cX10_init 57 = .ok (.lconst 1, 1) := by decide +kernel
theorem dX10_init_58 : decode cX10_init 58 = .ok (.putfield 31, 3) := by decide +kernel
theorem dX10_init_61 : decode cX10_init 61 = .ok (.aload_n 0, 1) := by decide +kernel
theorem dX10_init_62 : decode cX10_init 62 = .ok (.bipush 6, 2) := by decide +kernel
theorem dX10_init_64 : decode cX10_init 64 = .ok (.newarray .int, 2) := by decide +kernel
theorem dX10_init_66 : decode cX10_init 66 = .ok (.putfield 35, 3) := by decide +kernel
theorem dX10_init_69 : decode cX10_init 69 = .ok (.aload_n 0, 1) := by decide +kernel
theorem dX10_init_70 : decode cX10_init 70 = .ok (.bipush 6, 2) := by decide +kernel
theorem dX10_init_72 : decode cX10_init 72 = .ok (.newarray .int, 2) := by decide +kernel
theorem dX10_init_74 : decode cX10_init 74 = .ok (.putfield 38, 3) := by decide +kernel
theorem dX10_init_77 : decode cX10_init 77 = .ok (.aload_n 0, 1) := by decide +kernel
theorem dX10_init_78 : decode cX10_init 78 = .ok (.sipush 240, 3) := by decide +kernel
theorem dX10_init_81 : decode cX10_init 81 = .ok (.newarray .int, 2) := by decide +kernel
theorem dX10_init_83 : decode cX10_init 83 = .ok (.putfield 41, 3) := by decide +kernel
theorem dX10_init_86 : decode cX10_init 86 = .ok (.aload_n 0, 1) := by decide +kernel
theorem dX10_init_87 : decode cX10_init 87 = .ok (.iconst 4, 1) := by decide +kernel
theorem dX10_init_88 : decode cX10_init 88 = .ok (.newarray .int, 2) := by decide +kernel
theorem dX10_init_90 : decode cX10_init 90 = .ok (.putfield 44, 3) := by decide +kernel
theorem dX10_init_93 : decode cX10_init 93 = .ok (.aload_n 0, 1) := by decide +kernel
theorem dX10_init_94 : decode cX10_init 94 = .ok (.sipush 240, 3) := by decide +kernel
theorem dX10_init_97 : decode cX10_init 97 = .ok (.newarray .int, 2) := by decide +kernel
theorem dX10_init_99 : decode cX10_init 99 = .ok (.putfield 47, 3) := by decide +kernel
theorem dX10_init_102 : decode cX10_init 102 = .ok (.aload_n 0, 1) := by decide +kernel
theorem dX10_init_103 : decode cX10_init 103 = .ok (.iconst 3, 1) := by decide +kernel
theorem dX10_init_104 : decode cX10_init 104 = .ok (.newarray .int, 2) := by decide +kernel
theorem dX10_init_106 : decode cX10_init 106 = .ok (.putfield 50, 3) := by decide +kernel
theorem dX10_init_109 : decode cX10_init 109 = .ok (.aload_n 0, 1) := by decide +kernel
theorem dX10_init_110 : decode cX10_init 110 = .ok (.bipush 48, 2) := by decide +kernel
theorem dX10_init_112 : decode cX10_init 112 = .ok (.newarray .int, 2) := by decide +kernel
theorem dX10_init_114 : decode cX10_init 114 = .ok (.putfield 53, 3) := by decide +kernel
theorem dX10_init_117 : decode cX10_init 117 = .ok (.aload_n 0, 1) := by decide +kernel
theorem dX10_init_118 : decode cX10_init 118 = .ok (.sipush 2880, 3) := by decide +kernel
theorem dX10_init_121 : decode cX10_init 121 = .ok (.newarray .int, 2) := by decide +kernel
theorem dX10_init_123 : decode cX10_init 123 = .ok (.putfield 56, 3) := by decide +kernel
theorem dX10_init_126 : decode cX10_init 126 = .ok (.aload_n 0, 1) := by decide +kernel
theorem dX10_init_127 : decode cX10_init 127 = .ok (.bipush 12, 2) := by decide +kernel
theorem dX10_init_129 : decode cX10_init 129 = .ok (.newarray .int, 2) := by decide +kernel
theorem dX10_init_131 : decode cX10_init 131 = .ok (.putfield 59, 3) := by decide +kernel
theorem dX10_init_134 : decode cX10_init 134 = .ok (.aload_n 0, 1) := by decide +kernel
theorem dX10_init_135 : decode cX10_init 135 = .ok (.bipush 40, 2) := by decide +kernel
theorem dX10_init_137 : decode cX10_init 137 = .ok (.newarray .int, 2) := by decide +kernel
