theorem dX0_init_0 : decode cX0_init 0 = .ok (.aload_n 0, 1) := by decide +kernel
theorem dX0_init_1 : decode cX0_init 1 = .ok (.invokespecial 3, 3) := by decide +kernel
theorem dX0_init_4 : decode cX0_init 4 = .ok (.aload_n 0, 1) := by decide +kernel
theorem dX0_init_5 : decode cX0_init 5 = .ok (.new 9, 3) := by decide +kernel
theorem dX0_init_8 : decode cX0_init 8 = .ok (.dup, 1) := by decide +kernel
theorem dX0_init_9 : decode cX0_init 9 = .ok (.invokespecial 11, 3) := by decide +kernel
theorem dX0_init_12 : decode cX0_init 12 = .ok (.putfield 12, 3) := by decide +kernel
theorem dX0_init_15 : decode cX0_init 15 = .ok (.aload_n 0, 1) := by decide +kernel
theorem dX0_init_16 : decode cX0_init 16 = .ok (.sipush 128, 3) := by decide +kernel
theorem dX0_init_19 : decode cX0_init 19 = .ok (.newarray .int, 2) := by decide +kernel
theorem dX0_init_21 : decode cX0_init 21 = .ok (.putfield 18, 3) := by decide +kernel
theorem dX0_init_24 : decode cX0_init 24 = .ok (.return_, 1) := by decide +kernel
theorem dX0_weigh_0 : decode cX0_weigh 0 = .ok (.aload_n 0, 1) := by decide +kernel
theorem dX0_weigh_1 : decode cX0_weigh 1 = .ok (.getfield 12, 3) := by decide +kernel
theorem dX0_weigh_4 : decode cX0_weigh 4 = .ok (.aload_n 2, 1) := by decide +kernel
theorem dX0_weigh_5 : decode cX0_weigh 5 = .ok (.invokevirtual 22, 3) := by decide +kernel
theorem dX0_weigh_8 : decode cX0_weigh 8 = .ok (.aload_n 0, 1) := by decide +kernel
theorem dX0_weigh_9 : decode cX0_weigh 9 = .ok (.getfield 12, 3) := by decide +kernel
theorem dX0_weigh_12 : decode cX0_weigh 12 = .ok (.aload_n 1, 1) := by decide +kernel
theorem dX0_weigh_13 : decode cX0_weigh 13 = .ok (.invokevirtual 26, 3) := by decide +kernel
theorem dX0_weigh_16 : decode cX0_weigh 16 = .ok (.aload_n 0, 1) := by decide +kernel
theorem dX0_weigh_17 : decode cX0_weigh 17 = .ok (.getfield 12, 3) := by decide +kernel
theorem dX0_weigh_20 : decode cX0_weigh 20 = .ok (.getfield 30, 3) := by decide +kernel
theorem dX0_weigh_23 : decode cX0_weigh 23 = .ok (.iconst 0, 1) := by decide +kernel
theorem dX0_weigh_24 : decode cX0_weigh 24 = .ok (.iaload, 1) := by decide +kernel
theorem dX0_weigh_25 : decode cX0_weigh 25 = .ok (.istore_n 3, 1) := by decide +kernel
theorem dX0_weigh_26 : decode cX0_weigh 26 = .ok (.iconst 0, 1) := by decide +kernel
theorem dX0_weigh_27 : decode cX0_weigh 27 = .ok (.istore 4, 2) := by decide +kernel
theorem dX0_weigh_29 : decode cX0_weigh 29 = .ok (.iload 4, 2) := by decide +kernel
theorem dX0_weigh_31 : decode cX0_weigh 31 = .ok (.aload_n 1, 1) := by decide +kernel
theorem dX0_weigh_32 : decode cX0_weigh 32 = .ok (.invokevirtual 33, 3) := by decide +kernel
theorem dX0_weigh_35 : decode cX0_weigh 35 = .ok (.if_icmp .gt 67, 3) := by decide +kernel
theorem dX0_weigh_38 : decode cX0_weigh 38 = .ok (.aload_n 0, 1) := by decide +kernel
theorem dX0_weigh_39 : decode cX0_weigh 39 = .ok (.getfield 12, 3) := by decide +kernel
theorem dX0_weigh_42 : decode cX0_weigh 42 = .ok (.aload_n 1, 1) := by decide +kernel
theorem dX0_weigh_43 : decode cX0_weigh 43 = .ok (.iload 4, 2) := by decide +kernel
theorem dX0_weigh_45 : decode cX0_weigh 45 = .ok (.invokevirtual 39, 3) := by decide +kernel
theorem dX0_weigh_48 : decode cX0_weigh 48 = .ok (.istore 5, 2) := by decide +kernel
theorem dX0_weigh_50 : decode cX0_weigh 50 = .ok (.iconst 0, 1) := by decide +kernel
theorem dX0_weigh_51 : decode cX0_weigh 51 = .ok (.istore 6, 2) := by decide +kernel
theorem dX0_weigh_53 : decode cX0_weigh 53 = .ok (.iload 6, 2) := by decide +kernel
theorem dX0_weigh_55 : decode cX0_weigh 55 = .ok (.aload_n 1, 1) := by decide +kernel
theorem dX0_weigh_56 : decode cX0_weigh 56 = .ok (.getfield 43, 3) := by decide +kernel
theorem dX0_weigh_59 : decode cX0_weigh 59 = .ok (.if_icmp .ge 37, 3) := by decide +kernel
theorem dX0_weigh_62 : decode cX0_weigh 62 = .ok (.aload_n 0, 1) := by decide +kernel
theorem dX0_weigh_63 : decode cX0_weigh 63 = .ok (.getfield 18, 3) := by decide +kernel
theorem dX0_weigh_66 : decode cX0_weigh 66 = .ok (.iload 4, 2) := by decide +kernel
theorem dX0_weigh_68 : decode cX0_weigh 68 = .ok (.iconst 4, 1) := by decide +kernel
theorem dX0_weigh_69 : decode cX0_weigh 69 = .ok (.imul, 1) := by decide +kernel
theorem dX0_weigh_70 : decode cX0_weigh 70 = .ok (.iload 6, 2) := by decide +kernel
theorem dX0_weigh_72 : decode cX0_weigh 72 = .ok (.iadd, 1) := by decide +kernel
theorem dX0_weigh_73 : decode cX0_weigh 73 = .ok (.aload_n 1, 1) := by decide +kernel
theorem dX0_weigh_74 : decode cX0_weigh 74 = .ok (.iload 6, 2) := by decide +kernel
theorem dX0_weigh_76 : decode cX0_weigh 76 = .ok (.iload_n 3, 1) := by decide +kernel
theorem dX0_weigh_77 : decode cX0_weigh 77 = .ok (.invokevirtual 47, 3) := by decide +kernel
theorem dX0_weigh_80 : decode cX0_weigh 80 = .ok (.aload_n 1, 1) := by decide +kernel
theorem dX0_weigh_81 : decode cX0_weigh 81 = .ok (.iload 6, 2) := by decide +kernel
theorem dX0_weigh_83 : decode cX0_weigh 83 = .ok (.iload 5, 2) := by decide +kernel
theorem dX0_weigh_85 : decode cX0_weigh 85 = .ok (.invokevirtual 47, 3) := by decide +kernel
theorem dX0_weigh_88 : decode cX0_weigh 88 = .ok (.iadd, 1) := by decide +kernel
theorem dX0_weigh_89 : decode cX0_weigh 89 = .ok (.iastore, 1) := by decide +kernel
theorem dX0_weigh_90 : decode cX0_weigh 90 = .ok (.iinc 6 1, 3) := by decide +kernel
theorem dX0_weigh_93 : decode cX0_weigh 93 = .ok (.goto (-40), 3) := by decide +kernel
theorem dX0_weigh_96 : decode cX0_weigh 96 = .ok (.iinc 4 1, 3) := by decide +kernel
theorem dX0_weigh_99 : decode cX0_weigh 99 = .ok (.goto (-70), 3) := by decide +kernel
theorem dX0_weigh_102 : decode cX0_weigh 102 = .ok (.return_, 1) := by decide +kernel
theorem dX0_votersFor_0 : decode cX0_votersFor 0 = .ok (.iconst 0, 1) := by decide +kernel
theorem dX0_votersFor_1 : decode cX0_votersFor 1 = .ok (.istore 4, 2) := by decide +kernel
theorem dX0_votersFor_3 : decode cX0_votersFor 3 = .ok (.iconst 0, 1) := by decide +kernel
theorem dX0_votersFor_4 : decode cX0_votersFor 4 = .ok (.istore 5, 2) := by decide +kernel
theorem dX0_votersFor_6 : decode cX0_votersFor 6 = .ok (.iload 5, 2) := by decide +kernel
theorem dX0_votersFor_8 : decode cX0_votersFor 8 = .ok (.aload_n 1, 1) := by decide +kernel
theorem dX0_votersFor_9 : decode cX0_votersFor 9 = .ok (.getfield 43, 3) := by decide +kernel
theorem dX0_votersFor_12 : decode cX0_votersFor 12 = .ok (.if_icmp .ge 43, 3) := by decide +kernel
theorem dX0_votersFor_15 : decode cX0_votersFor 15 = .ok (.aload_n 0, 1) := by decide +kernel
theorem dX0_votersFor_16 : decode cX0_votersFor 16 = .ok (.getfield 18, 3) := by decide +kernel
theorem dX0_votersFor_19 : decode cX0_votersFor 19 = .ok (.iload_n 2, 1) := by decide +kernel
theorem dX0_votersFor_20 : decode cX0_votersFor 20 = .ok (.iconst 4, 1) := by decide +kernel
theorem dX0_votersFor_21 : decode cX0_votersFor 21 = .ok (.imul, 1) := by decide +kernel
theorem dX0_votersFor_22 : decode cX0_votersFor 22 = .ok (.iload 5, 2) := by decide +kernel
theorem dX0_votersFor_24 : decode cX0_votersFor 24 = .ok (.iadd, 1) := by decide +kernel
theorem dX0_votersFor_25 : decode cX0_votersFor 25 = .ok (.iaload, 1) := by decide +kernel
theorem dX0_votersFor_26 : decode cX0_votersFor 26 = .ok (.aload_n 0, 1) := by decide +kernel
theorem dX0_votersFor_27 : decode cX0_votersFor 27 = .ok (.getfield 18, 3) := by decide +kernel
theorem dX0_votersFor_30 : decode cX0_votersFor 30 = .ok (.iload_n 3, 1) := by decide +kernel
theorem dX0_votersFor_31 : decode cX0_votersFor 31 = .ok (.iconst 4, 1) := by decide +kernel
theorem dX0_votersFor_32 : decode cX0_votersFor 32 = .ok (.imul, 1) := by decide +kernel
theorem dX0_votersFor_33 : decode cX0_votersFor 33 = .ok (.iload 5, 2) := by decide +kernel
theorem dX0_votersFor_35 : decode cX0_votersFor 35 = .ok (.iadd, 1) := by decide +kernel
theorem dX0_votersFor_36 : decode cX0_votersFor 36 = .ok (.iaload, 1) := by decide +kernel
theorem dX0_votersFor_37 : decode cX0_votersFor 37 = .ok (.if_icmp .le 12, 3) := by decide +kernel
theorem dX0_votersFor_40 : decode cX0_votersFor 40 = .ok (.iload 4, 2) := by decide +kernel
theorem dX0_votersFor_42 : decode cX0_votersFor 42 = .ok (.iconst 1, 1) := by decide +kernel
theorem dX0_votersFor_43 : decode cX0_votersFor 43 = .ok (.iload 5, 2) := by decide +kernel
theorem dX0_votersFor_45 : decode cX0_votersFor 45 = .ok (.ishl, 1) := by decide +kernel
theorem dX0_votersFor_46 : decode cX0_votersFor 46 = .ok (.ior, 1) := by decide +kernel
theorem dX0_votersFor_47 : decode cX0_votersFor 47 = .ok (.istore 4, 2) := by decide +kernel
theorem dX0_votersFor_49 : decode cX0_votersFor 49 = .ok (.iinc 5 1, 3) := by decide +kernel
theorem dX0_votersFor_52 : decode cX0_votersFor 52 = .ok (.goto (-46), 3) := by decide +kernel
theorem dX0_votersFor_55 : decode cX0_votersFor 55 = .ok (.iload 4, 2) := by decide +kernel
theorem dX0_votersFor_57 : decode cX0_votersFor 57 = .ok (.ireturn, 1) := by decide +kernel
theorem dX0_firstUnbeaten_0 : decode cX0_firstUnbeaten 0 = .ok (.iconst 0, 1) := by decide +kernel
theorem dX0_firstUnbeaten_1 : decode cX0_firstUnbeaten 1 = .ok (.istore_n 2, 1) := by decide +kernel
theorem dX0_firstUnbeaten_2 : decode cX0_firstUnbeaten 2 = .ok (.iload_n 2, 1) := by decide +kernel
theorem dX0_firstUnbeaten_3 : decode cX0_firstUnbeaten 3 = .ok (.aload_n 1, 1) := by decide +kernel
theorem dX0_firstUnbeaten_4 : decode cX0_firstUnbeaten 4 = .ok (.invokevirtual 33, 3) := by decide +kernel
theorem dX0_firstUnbeaten_7 : decode cX0_firstUnbeaten 7 = .ok (.if_icmp .gt 20, 3) := by decide +kernel
theorem dX0_firstUnbeaten_10 : decode cX0_firstUnbeaten 10 = .ok (.aload_n 0, 1) := by decide +kernel
theorem dX0_firstUnbeaten_11 : decode cX0_firstUnbeaten 11 = .ok (.aload_n 1, 1) := by decide +kernel
theorem dX0_firstUnbeaten_12 : decode cX0_firstUnbeaten 12 = .ok (.iload_n 2, 1) := by decide +kernel
theorem dX0_firstUnbeaten_13 : decode cX0_firstUnbeaten 13 = .ok (.invokevirtual 51, 3) := by decide +kernel
theorem dX0_firstUnbeaten_16 : decode cX0_firstUnbeaten 16 = .ok (.ifCond .ne 5, 3) := by decide +kernel
theorem dX0_firstUnbeaten_19 : decode cX0_firstUnbeaten 19 = .ok (.iload_n 2, 1) := by decide +kernel
theorem dX0_firstUnbeaten_20 : decode cX0_firstUnbeaten 20 = .ok (.ireturn, 1) := by decide +kernel
theorem dX0_firstUnbeaten_21 : decode cX0_firstUnbeaten 21 = .ok (.iinc 2 1, 3) := by decide +kernel
theorem dX0_firstUnbeaten_24 : decode cX0_firstUnbeaten 24 = .ok (.goto (-22), 3) := by decide +kernel
theorem dX0_firstUnbeaten_27 : decode cX0_firstUnbeaten 27 = .ok (.bipush (-9), 2) := by decide +kernel
theorem dX0_firstUnbeaten_29 : decode cX0_firstUnbeaten 29 = .ok (.ireturn, 1) := by decide +kernel
theorem dX0_isBeaten_0 : decode cX0_isBeaten 0 = .ok (.iconst 0, 1) := by decide +kernel
theorem dX0_isBeaten_1 : decode cX0_isBeaten 1 = .ok (.istore_n 3, 1) := by decide +kernel
theorem dX0_isBeaten_2 : decode cX0_isBeaten 2 = .ok (.iload_n 3, 1) := by decide +kernel
theorem dX0_isBeaten_3 : decode cX0_isBeaten 3 = .ok (.aload_n 1, 1) := by decide +kernel
theorem dX0_isBeaten_4 : decode cX0_isBeaten 4 = .ok (.invokevirtual 33, 3) := by decide +kernel
theorem dX0_isBeaten_7 : decode cX0_isBeaten 7 = .ok (.if_icmp .gt 38, 3) := by decide +kernel
theorem dX0_isBeaten_10 : decode cX0_isBeaten 10 = .ok (.aload_n 0, 1) := by decide +kernel
theorem dX0_isBeaten_11 : decode cX0_isBeaten 11 = .ok (.aload_n 1, 1) := by decide +kernel
theorem dX0_isBeaten_12 : decode cX0_isBeaten 12 = .ok (.iload_n 3, 1) := by decide +kernel
theorem dX0_isBeaten_13 : decode cX0_isBeaten 13 = .ok (.iload_n 2, 1) := by decide +kernel
theorem dX0_isBeaten_14 : decode cX0_isBeaten 14 = .ok (.invokevirtual 55, 3) := by decide +kernel
theorem dX0_isBeaten_17 : decode cX0_isBeaten 17 = .ok (.invokestatic 59, 3) := by decide +kernel
theorem dX0_isBeaten_20 : decode cX0_isBeaten 20 = .ok (.istore 4, 2) := by decide +kernel
theorem dX0_isBeaten_22 : decode cX0_isBeaten 22 = .ok (.iload 4, 2) := by decide +kernel
theorem dX0_isBeaten_24 : decode cX0_isBeaten 24 = .ok (.aload_n 0, 1) := by decide +kernel
theorem dX0_isBeaten_25 : decode cX0_isBeaten 25 = .ok (.aload_n 1, 1) := by decide +kernel
theorem dX0_isBeaten_26 : decode cX0_isBeaten 26 = .ok (.iload_n 2, 1) := by decide +kernel
theorem dX0_isBeaten_27 : decode cX0_isBeaten 27 = .ok (.iload_n 3, 1) := by decide +kernel
theorem dX0_isBeaten_28 : decode cX0_isBeaten 28 = .ok (.invokevirtual 55, 3) := by decide +kernel
theorem dX0_isBeaten_31 : decode cX0_isBeaten 31 = .ok (.invokestatic 59, 3) := by decide +kernel
theorem dX0_isBeaten_34 : decode cX0_isBeaten 34 = .ok (.if_icmp .le 5, 3) := by decide +kernel
theorem dX0_isBeaten_37 : decode cX0_isBeaten 37 = .ok (.iconst 1, 1) := by decide +kernel
theorem dX0_isBeaten_38 : decode cX0_isBeaten 38 = .ok (.ireturn, 1) := by decide +kernel
theorem dX0_isBeaten_39 : decode cX0_isBeaten 39 = .ok (.iinc 3 1, 3) := by decide +kernel
theorem dX0_isBeaten_42 : decode cX0_isBeaten 42 = .ok (.goto (-40), 3) := by decide +kernel
theorem dX0_isBeaten_45 : decode cX0_isBeaten 45 = .ok (.iconst 0, 1) := by decide +kernel
theorem dX0_isBeaten_46 : decode cX0_isBeaten 46 = .ok (.ireturn, 1) := by decide +kernel
theorem dX0_firstLeaving_0 : decode cX0_firstLeaving 0 = .ok (.iconst 1, 1) := by decide +kernel
theorem dX0_firstLeaving_1 : decode cX0_firstLeaving 1 = .ok (.istore_n 3, 1) := by decide +kernel
theorem dX0_firstLeaving_2 : decode cX0_firstLeaving 2 = .ok (.iload_n 3, 1) := by decide +kernel
theorem dX0_firstLeaving_3 : decode cX0_firstLeaving 3 = .ok (.iconst 1, 1) := by decide +kernel
theorem dX0_firstLeaving_4 : decode cX0_firstLeaving 4 = .ok (.aload_n 1, 1) := by decide +kernel
theorem dX0_firstLeaving_5 : decode cX0_firstLeaving 5 = .ok (.getfield 43, 3) := by decide +kernel
theorem dX0_firstLeaving_8 : decode cX0_firstLeaving 8 = .ok (.ishl, 1) := by decide +kernel
theorem dX0_firstLeaving_9 : decode cX0_firstLeaving 9 = .ok (.if_icmp .ge 67, 3) := by decide +kernel
theorem dX0_firstLeaving_12 : decode cX0_firstLeaving 12 = .ok (.lconst 0, 1) := by decide +kernel
theorem dX0_firstLeaving_13 : decode cX0_firstLeaving 13 = .ok (.lstore 4, 2) := by decide +kernel
theorem dX0_firstLeaving_15 : decode cX0_firstLeaving 15 = .ok (.iconst 0, 1) := by decide +kernel
theorem dX0_firstLeaving_16 : decode cX0_firstLeaving 16 = .ok (.istore 6, 2) := by decide +kernel
theorem dX0_firstLeaving_18 : decode cX0_firstLeaving 18 = .ok (.iload 6, 2) := by decide +kernel
theorem dX0_firstLeaving_20 : decode cX0_firstLeaving 20 = .ok (.aload_n 1, 1) := by decide +kernel
theorem dX0_firstLeaving_21 : decode cX0_firstLeaving 21 = .ok (.getfield 43, 3) := by decide +kernel
theorem dX0_firstLeaving_24 : decode cX0_firstLeaving 24 = .ok (.if_icmp .ge 31, 3) := by decide +kernel
theorem dX0_firstLeaving_27 : decode cX0_firstLeaving 27 = .ok (.iload_n 3, 1) := by decide +kernel
theorem dX0_firstLeaving_28 : decode cX0_firstLeaving 28 = .ok (.iload 6, 2) := by decide +kernel
theorem dX0_firstLeaving_30 : decode cX0_firstLeaving 30 = .ok (.ishr, 1) := by decide +kernel
theorem dX0_firstLeaving_31 : decode cX0_firstLeaving 31 = .ok (.iconst 1, 1) := by decide +kernel
theorem dX0_firstLeaving_32 : decode cX0_firstLeaving 32 = .ok (.iand, 1) := by decide +kernel
theorem dX0_firstLeaving_33 : decode cX0_firstLeaving 33 = .ok (.ifCond .eq 16, 3) := by decide +kernel
theorem dX0_firstLeaving_36 : decode cX0_firstLeaving 36 = .ok (.lload 4, 2) := by decide +kernel
theorem dX0_firstLeaving_38 : decode cX0_firstLeaving 38 = .ok (.aload_n 2, 1) := by decide +kernel
theorem dX0_firstLeaving_39 : decode cX0_firstLeaving 39 = .ok (.getfield 65, 3) := by decide +kernel
theorem dX0_firstLeaving_42 : decode cX0_firstLeaving 42 = .ok (.iload 6, 2) := by decide +kernel
theorem dX0_firstLeaving_44 : decode cX0_firstLeaving 44 = .ok (.iaload, 1) := by decide +kernel
theorem dX0_firstLeaving_45 : decode cX0_firstLeaving 45 = .ok (.i2l, 1) := by decide +kernel
theorem dX0_firstLeaving_46 : decode cX0_firstLeaving 46 = .ok (.ladd, 1) := by decide +kernel
theorem dX0_firstLeaving_47 : decode cX0_firstLeaving 47 = .ok (.lstore 4, 2) := by decide +kernel
theorem dX0_firstLeaving_49 : decode cX0_firstLeaving 49 = .ok (.iinc 6 1, 3) := by decide +kernel
theorem dX0_firstLeaving_52 : decode cX0_firstLeaving 52 = .ok (.goto (-34), 3) := by decide +kernel
theorem dX0_firstLeaving_55 : decode cX0_firstLeaving 55 = .ok (.lload 4, 2) := by decide +kernel
theorem dX0_firstLeaving_57 : decode cX0_firstLeaving 57 = .ok (.aload_n 0, 1) := by decide +kernel
theorem dX0_firstLeaving_58 : decode cX0_firstLeaving 58 = .ok (.aload_n 1, 1) := by decide +kernel
theorem dX0_firstLeaving_59 : decode cX0_firstLeaving 59 = .ok (.iload_n 3, 1) := by decide +kernel
theorem dX0_firstLeaving_60 : decode cX0_firstLeaving 60 = .ok (.invokevirtual 70, 3) := by decide +kernel
theorem dX0_firstLeaving_63 : decode cX0_firstLeaving 63 = .ok (.i2l, 1) := by decide +kernel
theorem dX0_firstLeaving_64 : decode cX0_firstLeaving 64 = .ok (.lcmp, 1) := by decide +kernel
theorem dX0_firstLeaving_65 : decode cX0_firstLeaving 65 = .ok (.ifCond .ge 5, 3) := by decide +kernel
theorem dX0_firstLeaving_68 : decode cX0_firstLeaving 68 = .ok (.iload_n 3, 1) := by decide +kernel
theorem dX0_firstLeaving_69 : decode cX0_firstLeaving 69 = .ok (.ireturn, 1) := by decide +kernel
theorem dX0_firstLeaving_70 : decode cX0_firstLeaving 70 = .ok (.iinc 3 1, 3) := by decide +kernel
theorem dX0_firstLeaving_73 : decode cX0_firstLeaving 73 = .ok (.goto (-71), 3) := by decide +kernel
theorem dX0_firstLeaving_76 : decode cX0_firstLeaving 76 = .ok (.bipush (-9), 2) := by decide +kernel
theorem dX0_firstLeaving_78 : decode cX0_firstLeaving 78 = .ok (.ireturn, 1) := by decide +kernel
theorem dX0_mostOf_0 : decode cX0_mostOf 0 = .ok (.iconst 0, 1) := by decide +kernel
theorem dX0_mostOf_1 : decode cX0_mostOf 1 = .ok (.istore_n 3, 1) := by decide +kernel
theorem dX0_mostOf_2 : decode cX0_mostOf 2 = .ok (.iconst 0, 1) := by decide +kernel
theorem dX0_mostOf_3 : decode cX0_mostOf 3 = .ok (.istore 4, 2) := by decide +kernel
theorem dX0_mostOf_5 : decode cX0_mostOf 5 = .ok (.iload 4, 2) := by decide +kernel
theorem dX0_mostOf_7 : decode cX0_mostOf 7 = .ok (.aload_n 1, 1) := by decide +kernel
theorem dX0_mostOf_8 : decode cX0_mostOf 8 = .ok (.invokevirtual 33, 3) := by decide +kernel
theorem dX0_mostOf_11 : decode cX0_mostOf 11 = .ok (.if_icmp .gt 63, 3) := by decide +kernel
theorem dX0_mostOf_14 : decode cX0_mostOf 14 = .ok (.iconst 0, 1) := by decide +kernel
theorem dX0_mostOf_15 : decode cX0_mostOf 15 = .ok (.istore 5, 2) := by decide +kernel
theorem dX0_mostOf_17 : decode cX0_mostOf 17 = .ok (.iconst 0, 1) := by decide +kernel
theorem dX0_mostOf_18 : decode cX0_mostOf 18 = .ok (.istore 6, 2) := by decide +kernel
theorem dX0_mostOf_20 : decode cX0_mostOf 20 = .ok (.iload 6, 2) := by decide +kernel
theorem dX0_mostOf_22 : decode cX0_mostOf 22 = .ok (.aload_n 1, 1) := by decide +kernel
theorem dX0_mostOf_23 : decode cX0_mostOf 23 = .ok (.getfield 43, 3) := by decide +kernel
theorem dX0_mostOf_26 : decode cX0_mostOf 26 = .ok (.if_icmp .ge 35, 3) := by decide +kernel
theorem dX0_mostOf_29 : decode cX0_mostOf 29 = .ok (.iload_n 2, 1) := by decide +kernel
theorem dX0_mostOf_30 : decode cX0_mostOf 30 = .ok (.iload 6, 2) := by decide +kernel
theorem dX0_mostOf_32 : decode cX0_mostOf 32 = .ok (.ishr, 1) := by decide +kernel
theorem dX0_mostOf_33 : decode cX0_mostOf 33 = .ok (.iconst 1, 1) := by decide +kernel
theorem dX0_mostOf_34 : decode cX0_mostOf 34 = .ok (.iand, 1) := by decide +kernel
theorem dX0_mostOf_35 : decode cX0_mostOf 35 = .ok (.ifCond .eq 20, 3) := by decide +kernel
theorem dX0_mostOf_38 : decode cX0_mostOf 38 = .ok (.iload 5, 2) := by decide +kernel
theorem dX0_mostOf_40 : decode cX0_mostOf 40 = .ok (.aload_n 0, 1) := by decide +kernel
theorem dX0_mostOf_41 : decode cX0_mostOf 41 = .ok (.getfield 18, 3) := by decide +kernel
theorem dX0_mostOf_44 : decode cX0_mostOf 44 = .ok (.iload 4, 2) := by decide +kernel
theorem dX0_mostOf_46 : decode cX0_mostOf 46 = .ok (.iconst 4, 1) := by decide +kernel
theorem dX0_mostOf_47 : decode cX0_mostOf 47 = .ok (.imul, 1) := by decide +kernel
theorem dX0_mostOf_48 : decode cX0_mostOf 48 = .ok (.iload 6, 2) := by decide +kernel
theorem dX0_mostOf_50 : decode cX0_mostOf 50 = .ok (.iadd, 1) := by decide +kernel
theorem dX0_mostOf_51 : decode cX0_mostOf 51 = .ok (.iaload, 1) := by decide +kernel
theorem dX0_mostOf_52 : decode cX0_mostOf 52 = .ok (.iadd, 1) := by decide +kernel
theorem dX0_mostOf_53 : decode cX0_mostOf 53 = .ok (.istore 5, 2) := by decide +kernel
theorem dX0_mostOf_55 : decode cX0_mostOf 55 = .ok (.iinc 6 1, 3) := by decide +kernel
theorem dX0_mostOf_58 : decode cX0_mostOf 58 = .ok (.goto (-38), 3) := by decide +kernel
theorem dX0_mostOf_61 : decode cX0_mostOf 61 = .ok (.iload_n 3, 1) := by decide +kernel
theorem dX0_mostOf_62 : decode cX0_mostOf 62 = .ok (.iload 5, 2) := by decide +kernel
theorem dX0_mostOf_64 : decode cX0_mostOf 64 = .ok (.invokestatic 73, 3) := by decide +kernel
theorem dX0_mostOf_67 : decode cX0_mostOf 67 = .ok (.istore_n 3, 1) := by decide +kernel
theorem dX0_mostOf_68 : decode cX0_mostOf 68 = .ok (.iinc 4 1, 3) := by decide +kernel
theorem dX0_mostOf_71 : decode cX0_mostOf 71 = .ok (.goto (-66), 3) := by decide +kernel
theorem dX0_mostOf_74 : decode cX0_mostOf 74 = .ok (.iload_n 3, 1) := by decide +kernel
theorem dX0_mostOf_75 : decode cX0_mostOf 75 = .ok (.ireturn, 1) := by decide +kernel
theorem dX1_init_0 : decode cX1_init 0 = .ok (.aload_n 0, 1) := by decide +kernel
theorem dX1_init_1 : decode cX1_init 1 = .ok (.invokespecial 3, 3) := by decide +kernel
theorem dX1_init_4 : decode cX1_init 4 = .ok (.aload_n 0, 1) := by decide +kernel
theorem dX1_init_5 : decode cX1_init 5 = .ok (.bipush 16, 2) := by decide +kernel
theorem dX1_init_7 : decode cX1_init 7 = .ok (.newarray .int, 2) := by decide +kernel
theorem dX1_init_9 : decode cX1_init 9 = .ok (.putfield 9, 3) := by decide +kernel
theorem dX1_init_12 : decode cX1_init 12 = .ok (.aload_n 0, 1) := by decide +kernel
theorem dX1_init_13 : decode cX1_init 13 = .ok (.iconst 0, 1) := by decide +kernel
theorem dX1_init_14 : decode cX1_init 14 = .ok (.putfield 15, 3) := by decide +kernel
theorem dX1_init_17 : decode cX1_init 17 = .ok (.aload_n 0, 1) := by decide +kernel
theorem dX1_init_18 : decode cX1_init 18 = .ok (.iconst 0, 1) := by decide +kernel
theorem dX1_init_19 : decode cX1_init 19 = .ok (.putfield 19, 3) := by decide +kernel
theorem dX1_init_22 : decode cX1_init 22 = .ok (.aload_n 0, 1) := by decide +kernel
theorem dX1_init_23 : decode cX1_init 23 = .ok (.iconst 0, 1) := by decide +kernel
theorem dX1_init_24 : decode cX1_init 24 = .ok (.putfield 22, 3) := by decide +kernel
theorem dX1_init_27 : decode cX1_init 27 = .ok (.aload_n 0, 1) := by decide +kernel
theorem dX1_init_28 : decode cX1_init 28 = .ok (.iconst 0, 1) := by decide +kernel
theorem dX1_init_29 : decode cX1_init 29 = .ok (.putfield 25, 3) := by decide +kernel
theorem dX1_init_32 : decode cX1_init 32 = .ok (.return_, 1) := by decide +kernel
theorem dX1_begin_0 : decode cX1_begin 0 = .ok (.aload_n 0, 1) := by decide +kernel
theorem dX1_begin_1 : decode cX1_begin 1 = .ok (.getfield 9, 3) := by decide +kernel
theorem dX1_begin_4 : decode cX1_begin 4 = .ok (.iconst 0, 1) := by decide +kernel
theorem dX1_begin_5 : decode cX1_begin 5 = .ok (.invokestatic 28, 3) := by decide +kernel
theorem dX1_begin_8 : decode cX1_begin 8 = .ok (.iconst 0, 1) := by decide +kernel
theorem dX1_begin_9 : decode cX1_begin 9 = .ok (.istore_n 2, 1) := by decide +kernel
theorem dX1_begin_10 : decode cX1_begin 10 = .ok (.iload_n 2, 1) := by decide +kernel
theorem dX1_begin_11 : decode cX1_begin 11 = .ok (.aload_n 1, 1) := by decide +kernel
theorem dX1_begin_12 : decode cX1_begin 12 = .ok (.getfield 34, 3) := by decide +kernel
theorem dX1_begin_15 : decode cX1_begin 15 = .ok (.if_icmp .ge 46, 3) := by decide +kernel
theorem dX1_begin_18 : decode cX1_begin 18 = .ok (.aload_n 0, 1) := by decide +kernel
theorem dX1_begin_19 : decode cX1_begin 19 = .ok (.getfield 9, 3) := by decide +kernel
theorem dX1_begin_22 : decode cX1_begin 22 = .ok (.iconst 2, 1) := by decide +kernel
theorem dX1_begin_23 : decode cX1_begin 23 = .ok (.iload_n 2, 1) := by decide +kernel
theorem dX1_begin_24 : decode cX1_begin 24 = .ok (.iadd, 1) := by decide +kernel
theorem dX1_begin_25 : decode cX1_begin 25 = .ok (.aload_n 1, 1) := by decide +kernel
theorem dX1_begin_26 : decode cX1_begin 26 = .ok (.getfield 39, 3) := by decide +kernel
theorem dX1_begin_29 : decode cX1_begin 29 = .ok (.iload_n 2, 1) := by decide +kernel
theorem dX1_begin_30 : decode cX1_begin 30 = .ok (.iconst 3, 1) := by decide +kernel
theorem dX1_begin_31 : decode cX1_begin 31 = .ok (.imul, 1) := by decide +kernel
theorem dX1_begin_32 : decode cX1_begin 32 = .ok (.iconst 1, 1) := by decide +kernel
theorem dX1_begin_33 : decode cX1_begin 33 = .ok (.iadd, 1) := by decide +kernel
theorem dX1_begin_34 : decode cX1_begin 34 = .ok (.iaload, 1) := by decide +kernel
theorem dX1_begin_35 : decode cX1_begin 35 = .ok (.iastore, 1) := by decide +kernel
theorem dX1_begin_36 : decode cX1_begin 36 = .ok (.aload_n 0, 1) := by decide +kernel
theorem dX1_begin_37 : decode cX1_begin 37 = .ok (.getfield 9, 3) := by decide +kernel
theorem dX1_begin_40 : decode cX1_begin 40 = .ok (.bipush 7, 2) := by decide +kernel
theorem dX1_begin_42 : decode cX1_begin 42 = .ok (.iload_n 2, 1) := by decide +kernel
theorem dX1_begin_43 : decode cX1_begin 43 = .ok (.iadd, 1) := by decide +kernel
theorem dX1_begin_44 : decode cX1_begin 44 = .ok (.aload_n 1, 1) := by decide +kernel
theorem dX1_begin_45 : decode cX1_begin 45 = .ok (.getfield 39, 3) := by decide +kernel
theorem dX1_begin_48 : decode cX1_begin 48 = .ok (.iload_n 2, 1) := by decide +kernel
theorem dX1_begin_49 : decode cX1_begin 49 = .ok (.iconst 3, 1) := by decide +kernel
theorem dX1_begin_50 : decode cX1_begin 50 = .ok (.imul, 1) := by decide +kernel
theorem dX1_begin_51 : decode cX1_begin 51 = .ok (.iconst 2, 1) := by decide +kernel
theorem dX1_begin_52 : decode cX1_begin 52 = .ok (.iadd, 1) := by decide +kernel
theorem dX1_begin_53 : decode cX1_begin 53 = .ok (.iaload, 1) := by decide +kernel
theorem dX1_begin_54 : decode cX1_begin 54 = .ok (.iastore, 1) := by decide +kernel
theorem dX1_begin_55 : decode cX1_begin 55 = .ok (.iinc 2 1, 3) := by decide +kernel
theorem dX1_begin_58 : decode cX1_begin 58 = .ok (.goto (-48), 3) := by decide +kernel
theorem dX1_begin_61 : decode cX1_begin 61 = .ok (.return_, 1) := by decide +kernel
theorem dX1_take_0 : decode cX1_take 0 = .ok (.aload_n 1, 1) := by decide +kernel
theorem dX1_take_1 : decode cX1_take 1 = .ok (.getfield 9, 3) := by decide +kernel
theorem dX1_take_4 : decode cX1_take 4 = .ok (.iconst 0, 1) := by decide +kernel
theorem dX1_take_5 : decode cX1_take 5 = .ok (.aload_n 0, 1) := by decide +kernel
theorem dX1_take_6 : decode cX1_take 6 = .ok (.getfield 9, 3) := by decide +kernel
theorem dX1_take_9 : decode cX1_take 9 = .ok (.iconst 0, 1) := by decide +kernel
theorem dX1_take_10 : decode cX1_take 10 = .ok (.bipush 16, 2) := by decide +kernel
theorem dX1_take_12 : decode cX1_take 12 = .ok (.invokestatic 42, 3) := by decide +kernel
theorem dX1_take_15 : decode cX1_take 15 = .ok (.return_, 1) := by decide +kernel
theorem dX1_isDown_0 : decode cX1_isDown 0 = .ok (.aload_n 0, 1) := by decide +kernel
theorem dX1_isDown_1 : decode cX1_isDown 1 = .ok (.getfield 9, 3) := by decide +kernel
theorem dX1_isDown_4 : decode cX1_isDown 4 = .ok (.iconst 0, 1) := by decide +kernel
theorem dX1_isDown_5 : decode cX1_isDown 5 = .ok (.iaload, 1) := by decide +kernel
theorem dX1_isDown_6 : decode cX1_isDown 6 = .ok (.bipush 48, 2) := by decide +kernel
theorem dX1_isDown_8 : decode cX1_isDown 8 = .ok (.if_icmp .lt 7, 3) := by decide +kernel
theorem dX1_isDown_11 : decode cX1_isDown 11 = .ok (.iconst 1, 1) := by decide +kernel
theorem dX1_isDown_12 : decode cX1_isDown 12 = .ok (.goto 4, 3) := by decide +kernel
theorem dX1_isDown_15 : decode cX1_isDown 15 = .ok (.iconst 0, 1) := by decide +kernel
theorem dX1_isDown_16 : decode cX1_isDown 16 = .ok (.ireturn, 1) := by decide +kernel
theorem dX1_isAtEvenPlace_0 : decode cX1_isAtEvenPlace 0 = .ok (.aload_n 0, 1) := by decide +kernel
theorem dX1_isAtEvenPlace_1 : decode cX1_isAtEvenPlace 1 = .ok (.getfield 9, 3) := by decide +kernel
theorem dX1_isAtEvenPlace_4 : decode cX1_isAtEvenPlace 4 = .ok (.iconst 0, 1) := by decide +kernel
theorem dX1_isAtEvenPlace_5 : decode cX1_isAtEvenPlace 5 = .ok (.iaload, 1) := by decide +kernel
theorem dX1_isAtEvenPlace_6 : decode cX1_isAtEvenPlace 6 = .ok (.bipush 6, 2) := by decide +kernel
theorem dX1_isAtEvenPlace_8 : decode cX1_isAtEvenPlace 8 = .ok (.idiv, 1) := by decide +kernel
theorem dX1_isAtEvenPlace_9 : decode cX1_isAtEvenPlace 9 = .ok (.iconst 2, 1) := by decide +kernel
theorem dX1_isAtEvenPlace_10 : decode cX1_isAtEvenPlace 10 = .ok (.irem, 1) := by decide +kernel
theorem dX1_isAtEvenPlace_11 : decode cX1_isAtEvenPlace 11 = .ok (.ifCond .ne 7, 3) := by decide +kernel
theorem dX1_isAtEvenPlace_14 : decode cX1_isAtEvenPlace 14 = .ok (.iconst 1, 1) := by decide +kernel
theorem dX1_isAtEvenPlace_15 : decode cX1_isAtEvenPlace 15 = .ok (.goto 4, 3) := by decide +kernel
theorem dX1_isAtEvenPlace_18 : decode cX1_isAtEvenPlace 18 = .ok (.iconst 0, 1) := by decide +kernel
theorem dX1_isAtEvenPlace_19 : decode cX1_isAtEvenPlace 19 = .ok (.ireturn, 1) := by decide +kernel
theorem dX1_look_0 : decode cX1_look 0 = .ok (.aload_n 0, 1) := by decide +kernel
theorem dX1_look_1 : decode cX1_look 1 = .ok (.iconst 0, 1) := by decide +kernel
theorem dX1_look_2 : decode cX1_look 2 = .ok (.putfield 15, 3) := by decide +kernel
theorem dX1_look_5 : decode cX1_look 5 = .ok (.aload_n 0, 1) := by decide +kernel
theorem dX1_look_6 : decode cX1_look 6 = .ok (.iconst 0, 1) := by decide +kernel
theorem dX1_look_7 : decode cX1_look 7 = .ok (.putfield 19, 3) := by decide +kernel
theorem dX1_look_10 : decode cX1_look 10 = .ok (.aload_n 0, 1) := by decide +kernel
theorem dX1_look_11 : decode cX1_look 11 = .ok (.invokevirtual 48, 3) := by decide +kernel
theorem dX1_look_14 : decode cX1_look 14 = .ok (.ifCond .eq 4, 3) := by decide +kernel
theorem dX1_look_17 : decode cX1_look 17 = .ok (.return_, 1) := by decide +kernel
theorem dX1_look_18 : decode cX1_look 18 = .ok (.iconst 0, 1) := by decide +kernel
theorem dX1_look_19 : decode cX1_look 19 = .ok (.istore_n 2, 1) := by decide +kernel
theorem dX1_look_20 : decode cX1_look 20 = .ok (.iload_n 2, 1) := by decide +kernel
theorem dX1_look_21 : decode cX1_look 21 = .ok (.aload_n 1, 1) := by decide +kernel
theorem dX1_look_22 : decode cX1_look 22 = .ok (.getfield 52, 3) := by decide +kernel
theorem dX1_look_25 : decode cX1_look 25 = .ok (.if_icmp .ge 65, 3) := by decide +kernel
theorem dX1_look_28 : decode cX1_look 28 = .ok (.aload_n 0, 1) := by decide +kernel
theorem dX1_look_29 : decode cX1_look 29 = .ok (.getfield 9, 3) := by decide +kernel
theorem dX1_look_32 : decode cX1_look 32 = .ok (.iconst 2, 1) := by decide +kernel
theorem dX1_look_33 : decode cX1_look 33 = .ok (.iload_n 2, 1) := by decide +kernel
theorem dX1_look_34 : decode cX1_look 34 = .ok (.iadd, 1) := by decide +kernel
theorem dX1_look_35 : decode cX1_look 35 = .ok (.iaload, 1) := by decide +kernel
theorem dX1_look_36 : decode cX1_look 36 = .ok (.istore_n 3, 1) := by decide +kernel
theorem dX1_look_37 : decode cX1_look 37 = .ok (.iload_n 3, 1) := by decide +kernel
theorem dX1_look_38 : decode cX1_look 38 = .ok (.iconst 1, 1) := by decide +kernel
theorem dX1_look_39 : decode cX1_look 39 = .ok (.if_icmp .lt 28, 3) := by decide +kernel
theorem dX1_look_42 : decode cX1_look 42 = .ok (.aload_n 0, 1) := by decide +kernel
theorem dX1_look_43 : decode cX1_look 43 = .ok (.getfield 9, 3) := by decide +kernel
theorem dX1_look_46 : decode cX1_look 46 = .ok (.bipush 7, 2) := by decide +kernel
theorem dX1_look_48 : decode cX1_look 48 = .ok (.iload_n 2, 1) := by decide +kernel
theorem dX1_look_49 : decode cX1_look 49 = .ok (.iadd, 1) := by decide +kernel
theorem dX1_look_50 : decode cX1_look 50 = .ok (.iaload, 1) := by decide +kernel
theorem dX1_look_51 : decode cX1_look 51 = .ok (.iconst 1, 1) := by decide +kernel
theorem dX1_look_52 : decode cX1_look 52 = .ok (.if_icmp .lt 15, 3) := by decide +kernel
theorem dX1_look_55 : decode cX1_look 55 = .ok (.aload_n 0, 1) := by decide +kernel
theorem dX1_look_56 : decode cX1_look 56 = .ok (.dup, 1) := by decide +kernel
theorem dX1_look_57 : decode cX1_look 57 = .ok (.getfield 15, 3) := by decide +kernel
theorem dX1_look_60 : decode cX1_look 60 = .ok (.iconst 1, 1) := by decide +kernel
theorem dX1_look_61 : decode cX1_look 61 = .ok (.iload_n 2, 1) := by decide +kernel
theorem dX1_look_62 : decode cX1_look 62 = .ok (.ishl, 1) := by decide +kernel
theorem dX1_look_63 : decode cX1_look 63 = .ok (.ior, 1) := by decide +kernel
theorem dX1_look_64 : decode cX1_look 64 = .ok (.putfield 15, 3) := by decide +kernel
theorem dX1_look_67 : decode cX1_look 67 = .ok (.iload_n 3, 1) := by decide +kernel
theorem dX1_look_68 : decode cX1_look 68 = .ok (.iconst 1, 1) := by decide +kernel
theorem dX1_look_69 : decode cX1_look 69 = .ok (.if_icmp .ne 15, 3) := by decide +kernel
theorem dX1_look_72 : decode cX1_look 72 = .ok (.aload_n 0, 1) := by decide +kernel
theorem dX1_look_73 : decode cX1_look 73 = .ok (.dup, 1) := by decide +kernel
theorem dX1_look_74 : decode cX1_look 74 = .ok (.getfield 19, 3) := by decide +kernel
theorem dX1_look_77 : decode cX1_look 77 = .ok (.iconst 1, 1) := by decide +kernel
theorem dX1_look_78 : decode cX1_look 78 = .ok (.iload_n 2, 1) := by decide +kernel
theorem dX1_look_79 : decode cX1_look 79 = .ok (.ishl, 1) := by decide +kernel
theorem dX1_look_80 : decode cX1_look 80 = .ok (.ior, 1) := by decide +kernel
theorem dX1_look_81 : decode cX1_look 81 = .ok (.putfield 19, 3) := by decide +kernel
theorem dX1_look_84 : decode cX1_look 84 = .ok (.iinc 2 1, 3) := by decide +kernel
theorem dX1_look_87 : decode cX1_look 87 = .ok (.goto (-67), 3) := by decide +kernel
theorem dX1_look_90 : decode cX1_look 90 = .ok (.aload_n 0, 1) := by decide +kernel
theorem dX1_look_91 : decode cX1_look 91 = .ok (.getfield 9, 3) := by decide +kernel
theorem dX1_look_94 : decode cX1_look 94 = .ok (.iconst 0, 1) := by decide +kernel
theorem dX1_look_95 : decode cX1_look 95 = .ok (.iaload, 1) := by decide +kernel
theorem dX1_look_96 : decode cX1_look 96 = .ok (.bipush 24, 2) := by decide +kernel
theorem dX1_look_98 : decode cX1_look 98 = .ok (.if_icmp .lt 20, 3) := by decide +kernel
theorem dX1_look_101 : decode cX1_look 101 = .ok (.aload_n 0, 1) := by decide +kernel
theorem dX1_look_102 : decode cX1_look 102 = .ok (.dup, 1) := by decide +kernel
theorem dX1_look_103 : decode cX1_look 103 = .ok (.getfield 15, 3) := by decide +kernel
theorem dX1_look_106 : decode cX1_look 106 = .ok (.aload_n 1, 1) := by decide +kernel
theorem dX1_look_107 : decode cX1_look 107 = .ok (.getfield 55, 3) := by decide +kernel
theorem dX1_look_110 : decode cX1_look 110 = .ok (.iconst 3, 1) := by decide +kernel
theorem dX1_look_111 : decode cX1_look 111 = .ok (.iaload, 1) := by decide +kernel
theorem dX1_look_112 : decode cX1_look 112 = .ok (.iconst (-1), 1) := by decide +kernel
theorem dX1_look_113 : decode cX1_look 113 = .ok (.ixor, 1) := by decide +kernel
theorem dX1_look_114 : decode cX1_look 114 = .ok (.iand, 1) := by decide +kernel
theorem dX1_look_115 : decode cX1_look 115 = .ok (.putfield 15, 3) := by decide +kernel
theorem dX1_look_118 : decode cX1_look 118 = .ok (.aload_n 0, 1) := by decide +kernel
theorem dX1_look_119 : decode cX1_look 119 = .ok (.invokevirtual 58, 3) := by decide +kernel
theorem dX1_look_122 : decode cX1_look 122 = .ok (.ifCond .ne 20, 3) := by decide +kernel
theorem dX1_look_125 : decode cX1_look 125 = .ok (.aload_n 0, 1) := by decide +kernel
theorem dX1_look_126 : decode cX1_look 126 = .ok (.dup, 1) := by decide +kernel
theorem dX1_look_127 : decode cX1_look 127 = .ok (.getfield 19, 3) := by decide +kernel
theorem dX1_look_130 : decode cX1_look 130 = .ok (.aload_n 1, 1) := by decide +kernel
theorem dX1_look_131 : decode cX1_look 131 = .ok (.getfield 55, 3) := by decide +kernel
theorem dX1_look_134 : decode cX1_look 134 = .ok (.iconst 1, 1) := by decide +kernel
theorem dX1_look_135 : decode cX1_look 135 = .ok (.iaload, 1) := by decide +kernel
theorem dX1_look_136 : decode cX1_look 136 = .ok (.iconst (-1), 1) := by decide +kernel
theorem dX1_look_137 : decode cX1_look 137 = .ok (.ixor, 1) := by decide +kernel
theorem dX1_look_138 : decode cX1_look 138 = .ok (.iand, 1) := by decide +kernel
theorem dX1_look_139 : decode cX1_look 139 = .ok (.putfield 19, 3) := by decide +kernel
theorem dX1_look_142 : decode cX1_look 142 = .ok (.return_, 1) := by decide +kernel
theorem dX1_minuteBehind_0 : decode cX1_minuteBehind 0 = .ok (.aload_n 0, 1) := by decide +kernel
theorem dX1_minuteBehind_1 : decode cX1_minuteBehind 1 = .ok (.invokevirtual 48, 3) := by decide +kernel
theorem dX1_minuteBehind_4 : decode cX1_minuteBehind 4 = .ok (.ifCond .eq 10, 3) := by decide +kernel
theorem dX1_minuteBehind_7 : decode cX1_minuteBehind 7 = .ok (.aload_n 0, 1) := by decide +kernel
theorem dX1_minuteBehind_8 : decode cX1_minuteBehind 8 = .ok (.getfield 9, 3) := by decide +kernel
theorem dX1_minuteBehind_11 : decode cX1_minuteBehind 11 = .ok (.iconst 0, 1) := by decide +kernel
theorem dX1_minuteBehind_12 : decode cX1_minuteBehind 12 = .ok (.iaload, 1) := by decide +kernel
theorem dX1_minuteBehind_13 : decode cX1_minuteBehind 13 = .ok (.ireturn, 1) := by decide +kernel
theorem dX1_minuteBehind_14 : decode cX1_minuteBehind 14 = .ok (.iload_n 2, 1) := by decide +kernel
theorem dX1_minuteBehind_15 : decode cX1_minuteBehind 15 = .ok (.aload_n 0, 1) := by decide +kernel
theorem dX1_minuteBehind_16 : decode cX1_minuteBehind 16 = .ok (.getfield 15, 3) := by decide +kernel
theorem dX1_minuteBehind_19 : decode cX1_minuteBehind 19 = .ok (.iand, 1) := by decide +kernel
theorem dX1_minuteBehind_20 : decode cX1_minuteBehind 20 = .ok (.istore_n 3, 1) := by decide +kernel
theorem dX1_minuteBehind_21 : decode cX1_minuteBehind 21 = .ok (.iload_n 3, 1) := by decide +kernel
theorem dX1_minuteBehind_22 : decode cX1_minuteBehind 22 = .ok (.aload_n 0, 1) := by decide +kernel
theorem dX1_minuteBehind_23 : decode cX1_minuteBehind 23 = .ok (.getfield 19, 3) := by decide +kernel
theorem dX1_minuteBehind_26 : decode cX1_minuteBehind 26 = .ok (.iand, 1) := by decide +kernel
theorem dX1_minuteBehind_27 : decode cX1_minuteBehind 27 = .ok (.invokestatic 61, 3) := by decide +kernel
theorem dX1_minuteBehind_30 : decode cX1_minuteBehind 30 = .ok (.istore 4, 2) := by decide +kernel
theorem dX1_minuteBehind_32 : decode cX1_minuteBehind 32 = .ok (.aload_n 0, 1) := by decide +kernel
theorem dX1_minuteBehind_33 : decode cX1_minuteBehind 33 = .ok (.getfield 9, 3) := by decide +kernel
theorem dX1_minuteBehind_36 : decode cX1_minuteBehind 36 = .ok (.iconst 0, 1) := by decide +kernel
theorem dX1_minuteBehind_37 : decode cX1_minuteBehind 37 = .ok (.iaload, 1) := by decide +kernel
theorem dX1_minuteBehind_38 : decode cX1_minuteBehind 38 = .ok (.iconst 1, 1) := by decide +kernel
theorem dX1_minuteBehind_39 : decode cX1_minuteBehind 39 = .ok (.bipush 6, 2) := by decide +kernel
theorem dX1_minuteBehind_41 : decode cX1_minuteBehind 41 = .ok (.aload_n 1, 1) := by decide +kernel
theorem dX1_minuteBehind_42 : decode cX1_minuteBehind 42 = .ok (.iload_n 3, 1) := by decide +kernel
theorem dX1_minuteBehind_43 : decode cX1_minuteBehind 43 = .ok (.invokevirtual 67, 3) := by decide +kernel
theorem dX1_minuteBehind_46 : decode cX1_minuteBehind 46 = .ok (.isub, 1) := by decide +kernel
theorem dX1_minuteBehind_47 : decode cX1_minuteBehind 47 = .ok (.invokestatic 70, 3) := by decide +kernel
theorem dX1_minuteBehind_50 : decode cX1_minuteBehind 50 = .ok (.iadd, 1) := by decide +kernel
theorem dX1_minuteBehind_51 : decode cX1_minuteBehind 51 = .ok (.iconst 2, 1) := by decide +kernel
theorem dX1_minuteBehind_52 : decode cX1_minuteBehind 52 = .ok (.iload 4, 2) := by decide +kernel
theorem dX1_minuteBehind_54 : decode cX1_minuteBehind 54 = .ok (.imul, 1) := by decide +kernel
theorem dX1_minuteBehind_55 : decode cX1_minuteBehind 55 = .ok (.iadd, 1) := by decide +kernel
theorem dX1_minuteBehind_56 : decode cX1_minuteBehind 56 = .ok (.ireturn, 1) := by decide +kernel
theorem dX1_collect_0 : decode cX1_collect 0 = .ok (.iconst 0, 1) := by decide +kernel
theorem dX1_collect_1 : decode cX1_collect 1 = .ok (.istore_n 2, 1) := by decide +kernel
theorem dX1_collect_2 : decode cX1_collect 2 = .ok (.iload_n 2, 1) := by decide +kernel
theorem dX1_collect_3 : decode cX1_collect 3 = .ok (.aload_n 1, 1) := by decide +kernel
theorem dX1_collect_4 : decode cX1_collect 4 = .ok (.getfield 76, 3) := by decide +kernel
theorem dX1_collect_7 : decode cX1_collect 7 = .ok (.if_icmp .ge 32, 3) := by decide +kernel
theorem dX1_collect_10 : decode cX1_collect 10 = .ok (.aload_n 0, 1) := by decide +kernel
theorem dX1_collect_11 : decode cX1_collect 11 = .ok (.getfield 9, 3) := by decide +kernel
theorem dX1_collect_14 : decode cX1_collect 14 = .ok (.bipush 12, 2) := by decide +kernel
theorem dX1_collect_16 : decode cX1_collect 16 = .ok (.iload_n 2, 1) := by decide +kernel
theorem dX1_collect_17 : decode cX1_collect 17 = .ok (.iadd, 1) := by decide +kernel
theorem dX1_collect_18 : decode cX1_collect 18 = .ok (.dup2, 1) := by decide +kernel
theorem dX1_collect_19 : decode cX1_collect 19 = .ok (.iaload, 1) := by decide +kernel
theorem dX1_collect_20 : decode cX1_collect 20 = .ok (.aload_n 1, 1) := by decide +kernel
theorem dX1_collect_21 : decode cX1_collect 21 = .ok (.iload_n 2, 1) := by decide +kernel
theorem dX1_collect_22 : decode cX1_collect 22 = .ok (.aload_n 0, 1) := by decide +kernel
theorem dX1_collect_23 : decode cX1_collect 23 = .ok (.getfield 9, 3) := by decide +kernel
theorem dX1_collect_26 : decode cX1_collect 26 = .ok (.iconst 0, 1) := by decide +kernel
theorem dX1_collect_27 : decode cX1_collect 27 = .ok (.iaload, 1) := by decide +kernel
theorem dX1_collect_28 : decode cX1_collect 28 = .ok (.invokevirtual 79, 3) := by decide +kernel
theorem dX1_collect_31 : decode cX1_collect 31 = .ok (.iadd, 1) := by decide +kernel
theorem dX1_collect_32 : decode cX1_collect 32 = .ok (.iastore, 1) := by decide +kernel
theorem dX1_collect_33 : decode cX1_collect 33 = .ok (.iinc 2 1, 3) := by decide +kernel
theorem dX1_collect_36 : decode cX1_collect 36 = .ok (.goto (-34), 3) := by decide +kernel
theorem dX1_collect_39 : decode cX1_collect 39 = .ok (.return_, 1) := by decide +kernel
theorem dX1_goOn_0 : decode cX1_goOn 0 = .ok (.aload_n 0, 1) := by decide +kernel
theorem dX1_goOn_1 : decode cX1_goOn 1 = .ok (.aload_n 1, 1) := by decide +kernel
theorem dX1_goOn_2 : decode cX1_goOn 2 = .ok (.invokevirtual 82, 3) := by decide +kernel
theorem dX1_goOn_5 : decode cX1_goOn 5 = .ok (.aload_n 0, 1) := by decide +kernel
theorem dX1_goOn_6 : decode cX1_goOn 6 = .ok (.aload_n 1, 1) := by decide +kernel
theorem dX1_goOn_7 : decode cX1_goOn 7 = .ok (.iload_n 2, 1) := by decide +kernel
theorem dX1_goOn_8 : decode cX1_goOn 8 = .ok (.invokevirtual 86, 3) := by decide +kernel
theorem dX1_goOn_11 : decode cX1_goOn 11 = .ok (.aload_n 0, 1) := by decide +kernel
theorem dX1_goOn_12 : decode cX1_goOn 12 = .ok (.getfield 9, 3) := by decide +kernel
theorem dX1_goOn_15 : decode cX1_goOn 15 = .ok (.iconst 0, 1) := by decide +kernel
theorem dX1_goOn_16 : decode cX1_goOn 16 = .ok (.iaload, 1) := by decide +kernel
theorem dX1_goOn_17 : decode cX1_goOn 17 = .ok (.isub, 1) := by decide +kernel
theorem dX1_goOn_18 : decode cX1_goOn 18 = .ok (.istore_n 3, 1) := by decide +kernel
theorem dX1_goOn_19 : decode cX1_goOn 19 = .ok (.aload_n 0, 1) := by decide +kernel
theorem dX1_goOn_20 : decode cX1_goOn 20 = .ok (.iload_n 2, 1) := by decide +kernel
theorem dX1_goOn_21 : decode cX1_goOn 21 = .ok (.aload_n 0, 1) := by decide +kernel
theorem dX1_goOn_22 : decode cX1_goOn 22 = .ok (.getfield 15, 3) := by decide +kernel
theorem dX1_goOn_25 : decode cX1_goOn 25 = .ok (.iand, 1) := by decide +kernel
theorem dX1_goOn_26 : decode cX1_goOn 26 = .ok (.putfield 22, 3) := by decide +kernel
theorem dX1_goOn_29 : decode cX1_goOn 29 = .ok (.aload_n 0, 1) := by decide +kernel
theorem dX1_goOn_30 : decode cX1_goOn 30 = .ok (.aload_n 0, 1) := by decide +kernel
theorem dX1_goOn_31 : decode cX1_goOn 31 = .ok (.getfield 22, 3) := by decide +kernel
theorem dX1_goOn_34 : decode cX1_goOn 34 = .ok (.aload_n 0, 1) := by decide +kernel
theorem dX1_goOn_35 : decode cX1_goOn 35 = .ok (.getfield 19, 3) := by decide +kernel
theorem dX1_goOn_38 : decode cX1_goOn 38 = .ok (.iand, 1) := by decide +kernel
theorem dX1_goOn_39 : decode cX1_goOn 39 = .ok (.putfield 25, 3) := by decide +kernel
theorem dX1_goOn_42 : decode cX1_goOn 42 = .ok (.aload_n 0, 1) := by decide +kernel
theorem dX1_goOn_43 : decode cX1_goOn 43 = .ok (.getfield 9, 3) := by decide +kernel
theorem dX1_goOn_46 : decode cX1_goOn 46 = .ok (.iconst 1, 1) := by decide +kernel
theorem dX1_goOn_47 : decode cX1_goOn 47 = .ok (.dup2, 1) := by decide +kernel
theorem dX1_goOn_48 : decode cX1_goOn 48 = .ok (.iaload, 1) := by decide +kernel
theorem dX1_goOn_49 : decode cX1_goOn 49 = .ok (.aload_n 1, 1) := by decide +kernel
theorem dX1_goOn_50 : decode cX1_goOn 50 = .ok (.aload_n 0, 1) := by decide +kernel
theorem dX1_goOn_51 : decode cX1_goOn 51 = .ok (.getfield 22, 3) := by decide +kernel
theorem dX1_goOn_54 : decode cX1_goOn 54 = .ok (.invokevirtual 67, 3) := by decide +kernel
theorem dX1_goOn_57 : decode cX1_goOn 57 = .ok (.iconst 5, 1) := by decide +kernel
theorem dX1_goOn_58 : decode cX1_goOn 58 = .ok (.invokestatic 90, 3) := by decide +kernel
theorem dX1_goOn_61 : decode cX1_goOn 61 = .ok (.iadd, 1) := by decide +kernel
theorem dX1_goOn_62 : decode cX1_goOn 62 = .ok (.iastore, 1) := by decide +kernel
theorem dX1_goOn_63 : decode cX1_goOn 63 = .ok (.aload_n 0, 1) := by decide +kernel
theorem dX1_goOn_64 : decode cX1_goOn 64 = .ok (.aload_n 1, 1) := by decide +kernel
theorem dX1_goOn_65 : decode cX1_goOn 65 = .ok (.invokevirtual 93, 3) := by decide +kernel
theorem dX1_goOn_68 : decode cX1_goOn 68 = .ok (.aload_n 0, 1) := by decide +kernel
theorem dX1_goOn_69 : decode cX1_goOn 69 = .ok (.getfield 9, 3) := by decide +kernel
theorem dX1_goOn_72 : decode cX1_goOn 72 = .ok (.iconst 0, 1) := by decide +kernel
theorem dX1_goOn_73 : decode cX1_goOn 73 = .ok (.dup2, 1) := by decide +kernel
theorem dX1_goOn_74 : decode cX1_goOn 74 = .ok (.iaload, 1) := by decide +kernel
theorem dX1_goOn_75 : decode cX1_goOn 75 = .ok (.iload_n 3, 1) := by decide +kernel
theorem dX1_goOn_76 : decode cX1_goOn 76 = .ok (.iadd, 1) := by decide +kernel
theorem dX1_goOn_77 : decode cX1_goOn 77 = .ok (.iastore, 1) := by decide +kernel
theorem dX1_goOn_78 : decode cX1_goOn 78 = .ok (.iload_n 3, 1) := by decide +kernel
theorem dX1_goOn_79 : decode cX1_goOn 79 = .ok (.ireturn, 1) := by decide +kernel
theorem dX1_wearAndRest_0 : decode cX1_wearAndRest 0 = .ok (.aload_n 0, 1) := by decide +kernel
theorem dX1_wearAndRest_1 : decode cX1_wearAndRest 1 = .ok (.invokevirtual 58, 3) := by decide +kernel
theorem dX1_wearAndRest_4 : decode cX1_wearAndRest 4 = .ok (.ifCond .eq 10, 3) := by decide +kernel
theorem dX1_wearAndRest_7 : decode cX1_wearAndRest 7 = .ok (.aload_n 0, 1) := by decide +kernel
theorem dX1_wearAndRest_8 : decode cX1_wearAndRest 8 = .ok (.getfield 22, 3) := by decide +kernel
theorem dX1_wearAndRest_11 : decode cX1_wearAndRest 11 = .ok (.goto 16, 3) := by decide +kernel
theorem dX1_wearAndRest_14 : decode cX1_wearAndRest 14 = .ok (.aload_n 0, 1) := by decide +kernel
theorem dX1_wearAndRest_15 : decode cX1_wearAndRest 15 = .ok (.getfield 22, 3) := by decide +kernel
theorem dX1_wearAndRest_18 : decode cX1_wearAndRest 18 = .ok (.aload_n 1, 1) := by decide +kernel
theorem dX1_wearAndRest_19 : decode cX1_wearAndRest 19 = .ok (.getfield 55, 3) := by decide +kernel
theorem dX1_wearAndRest_22 : decode cX1_wearAndRest 22 = .ok (.iconst 1, 1) := by decide +kernel
theorem dX1_wearAndRest_23 : decode cX1_wearAndRest 23 = .ok (.iaload, 1) := by decide +kernel
theorem dX1_wearAndRest_24 : decode cX1_wearAndRest 24 = .ok (.iconst (-1), 1) := by decide +kernel
theorem dX1_wearAndRest_25 : decode cX1_wearAndRest 25 = .ok (.ixor, 1) := by decide +kernel
theorem dX1_wearAndRest_26 : decode cX1_wearAndRest 26 = .ok (.iand, 1) := by decide +kernel
theorem dX1_wearAndRest_27 : decode cX1_wearAndRest 27 = .ok (.istore_n 2, 1) := by decide +kernel
theorem dX1_wearAndRest_28 : decode cX1_wearAndRest 28 = .ok (.aload_n 0, 1) := by decide +kernel
theorem dX1_wearAndRest_29 : decode cX1_wearAndRest 29 = .ok (.getfield 22, 3) := by decide +kernel
theorem dX1_wearAndRest_32 : decode cX1_wearAndRest 32 = .ok (.aload_n 1, 1) := by decide +kernel
theorem dX1_wearAndRest_33 : decode cX1_wearAndRest 33 = .ok (.getfield 55, 3) := by decide +kernel
theorem dX1_wearAndRest_36 : decode cX1_wearAndRest 36 = .ok (.iconst 5, 1) := by decide +kernel
theorem dX1_wearAndRest_37 : decode cX1_wearAndRest 37 = .ok (.iaload, 1) := by decide +kernel
theorem dX1_wearAndRest_38 : decode cX1_wearAndRest 38 = .ok (.iconst (-1), 1) := by decide +kernel
theorem dX1_wearAndRest_39 : decode cX1_wearAndRest 39 = .ok (.ixor, 1) := by decide +kernel
theorem dX1_wearAndRest_40 : decode cX1_wearAndRest 40 = .ok (.iand, 1) := by decide +kernel
theorem dX1_wearAndRest_41 : decode cX1_wearAndRest 41 = .ok (.istore_n 3, 1) := by decide +kernel
theorem dX1_wearAndRest_42 : decode cX1_wearAndRest 42 = .ok (.iconst 0, 1) := by decide +kernel
theorem dX1_wearAndRest_43 : decode cX1_wearAndRest 43 = .ok (.istore 4, 2) := by decide +kernel
theorem dX1_wearAndRest_45 : decode cX1_wearAndRest 45 = .ok (.iload 4, 2) := by decide +kernel
theorem dX1_wearAndRest_47 : decode cX1_wearAndRest 47 = .ok (.aload_n 1, 1) := by decide +kernel
theorem dX1_wearAndRest_48 : decode cX1_wearAndRest 48 = .ok (.getfield 52, 3) := by decide +kernel
theorem dX1_wearAndRest_51 : decode cX1_wearAndRest 51 = .ok (.if_icmp .ge 101, 3) := by decide +kernel
theorem dX1_wearAndRest_54 : decode cX1_wearAndRest 54 = .ok (.aload_n 0, 1) := by decide +kernel
theorem dX1_wearAndRest_55 : decode cX1_wearAndRest 55 = .ok (.getfield 9, 3) := by decide +kernel
theorem dX1_wearAndRest_58 : decode cX1_wearAndRest 58 = .ok (.iconst 2, 1) := by decide +kernel
theorem dX1_wearAndRest_59 : decode cX1_wearAndRest 59 = .ok (.iload 4, 2) := by decide +kernel
theorem dX1_wearAndRest_61 : decode cX1_wearAndRest 61 = .ok (.iadd, 1) := by decide +kernel
theorem dX1_wearAndRest_62 : decode cX1_wearAndRest 62 = .ok (.dup2, 1) := by decide +kernel
theorem dX1_wearAndRest_63 : decode cX1_wearAndRest 63 = .ok (.iaload, 1) := by decide +kernel
theorem dX1_wearAndRest_64 : decode cX1_wearAndRest 64 = .ok (.iload_n 2, 1) := by decide +kernel
theorem dX1_wearAndRest_65 : decode cX1_wearAndRest 65 = .ok (.iload 4, 2) := by decide +kernel
theorem dX1_wearAndRest_67 : decode cX1_wearAndRest 67 = .ok (.ishr, 1) := by decide +kernel
theorem dX1_wearAndRest_68 : decode cX1_wearAndRest 68 = .ok (.iconst 1, 1) := by decide +kernel
theorem dX1_wearAndRest_69 : decode cX1_wearAndRest 69 = .ok (.iand, 1) := by decide +kernel
theorem dX1_wearAndRest_70 : decode cX1_wearAndRest 70 = .ok (.isub, 1) := by decide +kernel
theorem dX1_wearAndRest_71 : decode cX1_wearAndRest 71 = .ok (.iastore, 1) := by decide +kernel
theorem dX1_wearAndRest_72 : decode cX1_wearAndRest 72 = .ok (.aload_n 0, 1) := by decide +kernel
theorem dX1_wearAndRest_73 : decode cX1_wearAndRest 73 = .ok (.getfield 9, 3) := by decide +kernel
theorem dX1_wearAndRest_76 : decode cX1_wearAndRest 76 = .ok (.bipush 7, 2) := by decide +kernel
theorem dX1_wearAndRest_78 : decode cX1_wearAndRest 78 = .ok (.iload 4, 2) := by decide +kernel
theorem dX1_wearAndRest_80 : decode cX1_wearAndRest 80 = .ok (.iadd, 1) := by decide +kernel
theorem dX1_wearAndRest_81 : decode cX1_wearAndRest 81 = .ok (.dup2, 1) := by decide +kernel
theorem dX1_wearAndRest_82 : decode cX1_wearAndRest 82 = .ok (.iaload, 1) := by decide +kernel
theorem dX1_wearAndRest_83 : decode cX1_wearAndRest 83 = .ok (.iload_n 3, 1) := by decide +kernel
theorem dX1_wearAndRest_84 : decode cX1_wearAndRest 84 = .ok (.iload 4, 2) := by decide +kernel
theorem dX1_wearAndRest_86 : decode cX1_wearAndRest 86 = .ok (.ishr, 1) := by decide +kernel
theorem dX1_wearAndRest_87 : decode cX1_wearAndRest 87 = .ok (.iconst 1, 1) := by decide +kernel
theorem dX1_wearAndRest_88 : decode cX1_wearAndRest 88 = .ok (.iand, 1) := by decide +kernel
theorem dX1_wearAndRest_89 : decode cX1_wearAndRest 89 = .ok (.isub, 1) := by decide +kernel
theorem dX1_wearAndRest_90 : decode cX1_wearAndRest 90 = .ok (.iastore, 1) := by decide +kernel
theorem dX1_wearAndRest_91 : decode cX1_wearAndRest 91 = .ok (.aload_n 0, 1) := by decide +kernel
theorem dX1_wearAndRest_92 : decode cX1_wearAndRest 92 = .ok (.getfield 22, 3) := by decide +kernel
theorem dX1_wearAndRest_95 : decode cX1_wearAndRest 95 = .ok (.iload 4, 2) := by decide +kernel
theorem dX1_wearAndRest_97 : decode cX1_wearAndRest 97 = .ok (.ishr, 1) := by decide +kernel
theorem dX1_wearAndRest_98 : decode cX1_wearAndRest 98 = .ok (.iconst 1, 1) := by decide +kernel
theorem dX1_wearAndRest_99 : decode cX1_wearAndRest 99 = .ok (.iand, 1) := by decide +kernel
theorem dX1_wearAndRest_100 : decode cX1_wearAndRest 100 = .ok (.ifCond .ne 46, 3) := by decide +kernel
theorem dX1_wearAndRest_103 : decode cX1_wearAndRest 103 = .ok (.iconst 1, 1) := by decide +kernel
theorem dX1_wearAndRest_104 : decode cX1_wearAndRest 104 = .ok (.aload_n 1, 1) := by decide +kernel
theorem dX1_wearAndRest_105 : decode cX1_wearAndRest 105 = .ok (.getfield 55, 3) := by decide +kernel
theorem dX1_wearAndRest_108 : decode cX1_wearAndRest 108 = .ok (.iconst 4, 1) := by decide +kernel
theorem dX1_wearAndRest_109 : decode cX1_wearAndRest 109 = .ok (.iaload, 1) := by decide +kernel
theorem dX1_wearAndRest_110 : decode cX1_wearAndRest 110 = .ok (.iload 4, 2) := by decide +kernel
theorem dX1_wearAndRest_112 : decode cX1_wearAndRest 112 = .ok (.ishr, 1) := by decide +kernel
theorem dX1_wearAndRest_113 : decode cX1_wearAndRest 113 = .ok (.iconst 1, 1) := by decide +kernel
theorem dX1_wearAndRest_114 : decode cX1_wearAndRest 114 = .ok (.iand, 1) := by decide +kernel
theorem dX1_wearAndRest_115 : decode cX1_wearAndRest 115 = .ok (.iadd, 1) := by decide +kernel
theorem dX1_wearAndRest_116 : decode cX1_wearAndRest 116 = .ok (.istore 5, 2) := by decide +kernel
theorem dX1_wearAndRest_118 : decode cX1_wearAndRest 118 = .ok (.aload_n 0, 1) := by decide +kernel
theorem dX1_wearAndRest_119 : decode cX1_wearAndRest 119 = .ok (.getfield 9, 3) := by decide +kernel
theorem dX1_wearAndRest_122 : decode cX1_wearAndRest 122 = .ok (.bipush 7, 2) := by decide +kernel
theorem dX1_wearAndRest_124 : decode cX1_wearAndRest 124 = .ok (.iload 4, 2) := by decide +kernel
theorem dX1_wearAndRest_126 : decode cX1_wearAndRest 126 = .ok (.iadd, 1) := by decide +kernel
theorem dX1_wearAndRest_127 : decode cX1_wearAndRest 127 = .ok (.bipush 9, 2) := by decide +kernel
theorem dX1_wearAndRest_129 : decode cX1_wearAndRest 129 = .ok (.aload_n 0, 1) := by decide +kernel
theorem dX1_wearAndRest_130 : decode cX1_wearAndRest 130 = .ok (.getfield 9, 3) := by decide +kernel
theorem dX1_wearAndRest_133 : decode cX1_wearAndRest 133 = .ok (.bipush 7, 2) := by decide +kernel
theorem dX1_wearAndRest_135 : decode cX1_wearAndRest 135 = .ok (.iload 4, 2) := by decide +kernel
theorem dX1_wearAndRest_137 : decode cX1_wearAndRest 137 = .ok (.iadd, 1) := by decide +kernel
theorem dX1_wearAndRest_138 : decode cX1_wearAndRest 138 = .ok (.iaload, 1) := by decide +kernel
theorem dX1_wearAndRest_139 : decode cX1_wearAndRest 139 = .ok (.iload 5, 2) := by decide +kernel
theorem dX1_wearAndRest_141 : decode cX1_wearAndRest 141 = .ok (.iadd, 1) := by decide +kernel
theorem dX1_wearAndRest_142 : decode cX1_wearAndRest 142 = .ok (.invokestatic 90, 3) := by decide +kernel
theorem dX1_wearAndRest_145 : decode cX1_wearAndRest 145 = .ok (.iastore, 1) := by decide +kernel
theorem dX1_wearAndRest_146 : decode cX1_wearAndRest 146 = .ok (.iinc 4 1, 3) := by decide +kernel
theorem dX1_wearAndRest_149 : decode cX1_wearAndRest 149 = .ok (.goto (-104), 3) := by decide +kernel
theorem dX1_wearAndRest_152 : decode cX1_wearAndRest 152 = .ok (.return_, 1) := by decide +kernel
theorem dX2_init_0 : decode cX2_init 0 = .ok (.aload_n 0, 1) := by decide +kernel
theorem dX2_init_1 : decode cX2_init 1 = .ok (.invokespecial 3, 3) := by decide +kernel
theorem dX2_init_4 : decode cX2_init 4 = .ok (.aload_n 0, 1) := by decide +kernel
theorem dX2_init_5 : decode cX2_init 5 = .ok (.sipush 976, 3) := by decide +kernel
theorem dX2_init_8 : decode cX2_init 8 = .ok (.newarray .int, 2) := by decide +kernel
theorem dX2_init_10 : decode cX2_init 10 = .ok (.putfield 9, 3) := by decide +kernel
theorem dX2_init_13 : decode cX2_init 13 = .ok (.aload_n 0, 1) := by decide +kernel
theorem dX2_init_14 : decode cX2_init 14 = .ok (.iconst 4, 1) := by decide +kernel
theorem dX2_init_15 : decode cX2_init 15 = .ok (.newarray .int, 2) := by decide +kernel
theorem dX2_init_17 : decode cX2_init 17 = .ok (.putfield 15, 3) := by decide +kernel
theorem dX2_init_20 : decode cX2_init 20 = .ok (.aload_n 0, 1) := by decide +kernel
theorem dX2_init_21 : decode cX2_init 21 = .ok (.iconst 0, 1) := by decide +kernel
theorem dX2_init_22 : decode cX2_init 22 = .ok (.putfield 18, 3) := by decide +kernel
theorem dX2_init_25 : decode cX2_init 25 = .ok (.return_, 1) := by decide +kernel
theorem dX2_writeLast_0 : decode cX2_writeLast 0 = .ok (.aload_n 0, 1) := by decide +kernel
theorem dX2_writeLast_1 : decode cX2_writeLast 1 = .ok (.getfield 18, 3) := by decide +kernel
theorem dX2_writeLast_4 : decode cX2_writeLast 4 = .ok (.ifCond .lt 33, 3) := by decide +kernel
theorem dX2_writeLast_7 : decode cX2_writeLast 7 = .ok (.aload_n 0, 1) := by decide +kernel
theorem dX2_writeLast_8 : decode cX2_writeLast 8 = .ok (.getfield 18, 3) := by decide +kernel
theorem dX2_writeLast_11 : decode cX2_writeLast 11 = .ok (.bipush 60, 2) := by decide +kernel
theorem dX2_writeLast_13 : decode cX2_writeLast 13 = .ok (.if_icmp .gt 24, 3) := by decide +kernel
theorem dX2_writeLast_16 : decode cX2_writeLast 16 = .ok (.aload_n 1, 1) := by decide +kernel
theorem dX2_writeLast_17 : decode cX2_writeLast 17 = .ok (.getfield 22, 3) := by decide +kernel
theorem dX2_writeLast_20 : decode cX2_writeLast 20 = .ok (.iconst 0, 1) := by decide +kernel
theorem dX2_writeLast_21 : decode cX2_writeLast 21 = .ok (.aload_n 0, 1) := by decide +kernel
theorem dX2_writeLast_22 : decode cX2_writeLast 22 = .ok (.getfield 9, 3) := by decide +kernel
theorem dX2_writeLast_25 : decode cX2_writeLast 25 = .ok (.aload_n 0, 1) := by decide +kernel
theorem dX2_writeLast_26 : decode cX2_writeLast 26 = .ok (.getfield 18, 3) := by decide +kernel
theorem dX2_writeLast_29 : decode cX2_writeLast 29 = .ok (.bipush 16, 2) := by decide +kernel
theorem dX2_writeLast_31 : decode cX2_writeLast 31 = .ok (.imul, 1) := by decide +kernel
theorem dX2_writeLast_32 : decode cX2_writeLast 32 = .ok (.bipush 16, 2) := by decide +kernel
theorem dX2_writeLast_34 : decode cX2_writeLast 34 = .ok (.invokestatic 27, 3) := by decide +kernel
theorem dX2_writeLast_37 : decode cX2_writeLast 37 = .ok (.return_, 1) := by decide +kernel
theorem dX2_write_0 : decode cX2_write 0 = .ok (.aload_n 0, 1) := by decide +kernel
theorem dX2_write_1 : decode cX2_write 1 = .ok (.aload_n 1, 1) := by decide +kernel
theorem dX2_write_2 : decode cX2_write 2 = .ok (.invokevirtual 33, 3) := by decide +kernel
theorem dX2_write_5 : decode cX2_write 5 = .ok (.aload_n 0, 1) := by decide +kernel
theorem dX2_write_6 : decode cX2_write 6 = .ok (.dup, 1) := by decide +kernel
theorem dX2_write_7 : decode cX2_write 7 = .ok (.getfield 18, 3) := by decide +kernel
theorem dX2_write_10 : decode cX2_write 10 = .ok (.iconst 1, 1) := by decide +kernel
theorem dX2_write_11 : decode cX2_write 11 = .ok (.iadd, 1) := by decide +kernel
theorem dX2_write_12 : decode cX2_write 12 = .ok (.putfield 18, 3) := by decide +kernel
theorem dX2_write_15 : decode cX2_write 15 = .ok (.return_, 1) := by decide +kernel
theorem dX2_goBack_0 : decode cX2_goBack 0 = .ok (.iload_n 1, 1) := by decide +kernel
theorem dX2_goBack_1 : decode cX2_goBack 1 = .ok (.ifCond .lt 32, 3) := by decide +kernel
theorem dX2_goBack_4 : decode cX2_goBack 4 = .ok (.iload_n 1, 1) := by decide +kernel
theorem dX2_goBack_5 : decode cX2_goBack 5 = .ok (.bipush 60, 2) := by decide +kernel
theorem dX2_goBack_7 : decode cX2_goBack 7 = .ok (.if_icmp .gt 26, 3) := by decide +kernel
theorem dX2_goBack_10 : decode cX2_goBack 10 = .ok (.aload_n 0, 1) := by decide +kernel
theorem dX2_goBack_11 : decode cX2_goBack 11 = .ok (.getfield 9, 3) := by decide +kernel
theorem dX2_goBack_14 : decode cX2_goBack 14 = .ok (.iload_n 1, 1) := by decide +kernel
theorem dX2_goBack_15 : decode cX2_goBack 15 = .ok (.bipush 16, 2) := by decide +kernel
theorem dX2_goBack_17 : decode cX2_goBack 17 = .ok (.imul, 1) := by decide +kernel
theorem dX2_goBack_18 : decode cX2_goBack 18 = .ok (.aload_n 2, 1) := by decide +kernel
theorem dX2_goBack_19 : decode cX2_goBack 19 = .ok (.getfield 22, 3) := by decide +kernel
theorem dX2_goBack_22 : decode cX2_goBack 22 = .ok (.iconst 0, 1) := by decide +kernel
theorem dX2_goBack_23 : decode cX2_goBack 23 = .ok (.bipush 16, 2) := by decide +kernel
theorem dX2_goBack_25 : decode cX2_goBack 25 = .ok (.invokestatic 27, 3) := by decide +kernel
theorem dX2_goBack_28 : decode cX2_goBack 28 = .ok (.aload_n 0, 1) := by decide +kernel
theorem dX2_goBack_29 : decode cX2_goBack 29 = .ok (.iload_n 1, 1) := by decide +kernel
theorem dX2_goBack_30 : decode cX2_goBack 30 = .ok (.putfield 18, 3) := by decide +kernel
theorem dX2_goBack_33 : decode cX2_goBack 33 = .ok (.return_, 1) := by decide +kernel
theorem dX2_take_0 : decode cX2_take 0 = .ok (.aload_n 1, 1) := by decide +kernel
theorem dX2_take_1 : decode cX2_take 1 = .ok (.getfield 18, 3) := by decide +kernel
theorem dX2_take_4 : decode cX2_take 4 = .ok (.ifCond .lt 42, 3) := by decide +kernel
theorem dX2_take_7 : decode cX2_take 7 = .ok (.aload_n 1, 1) := by decide +kernel
theorem dX2_take_8 : decode cX2_take 8 = .ok (.getfield 18, 3) := by decide +kernel
theorem dX2_take_11 : decode cX2_take 11 = .ok (.bipush 60, 2) := by decide +kernel
theorem dX2_take_13 : decode cX2_take 13 = .ok (.if_icmp .gt 33, 3) := by decide +kernel
theorem dX2_take_16 : decode cX2_take 16 = .ok (.aload_n 1, 1) := by decide +kernel
theorem dX2_take_17 : decode cX2_take 17 = .ok (.getfield 9, 3) := by decide +kernel
theorem dX2_take_20 : decode cX2_take 20 = .ok (.iconst 0, 1) := by decide +kernel
theorem dX2_take_21 : decode cX2_take 21 = .ok (.aload_n 0, 1) := by decide +kernel
theorem dX2_take_22 : decode cX2_take 22 = .ok (.getfield 9, 3) := by decide +kernel
theorem dX2_take_25 : decode cX2_take 25 = .ok (.iconst 0, 1) := by decide +kernel
theorem dX2_take_26 : decode cX2_take 26 = .ok (.aload_n 1, 1) := by decide +kernel
theorem dX2_take_27 : decode cX2_take 27 = .ok (.getfield 18, 3) := by decide +kernel
theorem dX2_take_30 : decode cX2_take 30 = .ok (.iconst 1, 1) := by decide +kernel
theorem dX2_take_31 : decode cX2_take 31 = .ok (.iadd, 1) := by decide +kernel
theorem dX2_take_32 : decode cX2_take 32 = .ok (.bipush 16, 2) := by decide +kernel
theorem dX2_take_34 : decode cX2_take 34 = .ok (.imul, 1) := by decide +kernel
theorem dX2_take_35 : decode cX2_take 35 = .ok (.invokestatic 27, 3) := by decide +kernel
theorem dX2_take_38 : decode cX2_take 38 = .ok (.aload_n 0, 1) := by decide +kernel
theorem dX2_take_39 : decode cX2_take 39 = .ok (.aload_n 1, 1) := by decide +kernel
theorem dX2_take_40 : decode cX2_take 40 = .ok (.getfield 18, 3) := by decide +kernel
theorem dX2_take_43 : decode cX2_take 43 = .ok (.putfield 18, 3) := by decide +kernel
theorem dX2_take_46 : decode cX2_take 46 = .ok (.return_, 1) := by decide +kernel
theorem dX3_init_0 : decode cX3_init 0 = .ok (.aload_n 0, 1) := by decide +kernel
theorem dX3_init_1 : decode cX3_init 1 = .ok (.invokespecial 3, 3) := by decide +kernel
theorem dX3_init_4 : decode cX3_init 4 = .ok (.aload_n 0, 1) := by decide +kernel
theorem dX3_init_5 : decode cX3_init 5 = .ok (.new 9, 3) := by decide +kernel
theorem dX3_init_8 : decode cX3_init 8 = .ok (.dup, 1) := by decide +kernel
theorem dX3_init_9 : decode cX3_init 9 = .ok (.invokespecial 11, 3) := by decide +kernel
theorem dX3_init_12 : decode cX3_init 12 = .ok (.putfield 12, 3) := by decide +kernel
theorem dX3_init_15 : decode cX3_init 15 = .ok (.aload_n 0, 1) := by decide +kernel
theorem dX3_init_16 : decode cX3_init 16 = .ok (.iconst 0, 1) := by decide +kernel
theorem dX3_init_17 : decode cX3_init 17 = .ok (.putfield 18, 3) := by decide +kernel
theorem dX3_init_20 : decode cX3_init 20 = .ok (.return_, 1) := by decide +kernel
theorem dX3_gainOf_0 : decode cX3_gainOf 0 = .ok (.aload_n 0, 1) := by decide +kernel
theorem dX3_gainOf_1 : decode cX3_gainOf 1 = .ok (.getfield 12, 3) := by decide +kernel
theorem dX3_gainOf_4 : decode cX3_gainOf 4 = .ok (.aload_n 2, 1) := by decide +kernel
theorem dX3_gainOf_5 : decode cX3_gainOf 5 = .ok (.invokevirtual 22, 3) := by decide +kernel
theorem dX3_gainOf_8 : decode cX3_gainOf 8 = .ok (.iconst 0, 1) := by decide +kernel
theorem dX3_gainOf_9 : decode cX3_gainOf 9 = .ok (.istore 4, 2) := by decide +kernel
theorem dX3_gainOf_11 : decode cX3_gainOf 11 = .ok (.iconst 0, 1) := by decide +kernel
theorem dX3_gainOf_12 : decode cX3_gainOf 12 = .ok (.istore 5, 2) := by decide +kernel
theorem dX3_gainOf_14 : decode cX3_gainOf 14 = .ok (.iload 5, 2) := by decide +kernel
theorem dX3_gainOf_16 : decode cX3_gainOf 16 = .ok (.aload_n 3, 1) := by decide +kernel
theorem dX3_gainOf_17 : decode cX3_gainOf 17 = .ok (.getfield 26, 3) := by decide +kernel
theorem dX3_gainOf_20 : decode cX3_gainOf 20 = .ok (.if_icmp .ge 43, 3) := by decide +kernel
theorem dX3_gainOf_23 : decode cX3_gainOf 23 = .ok (.iload 4, 2) := by decide +kernel
theorem dX3_gainOf_25 : decode cX3_gainOf 25 = .ok (.aload_n 1, 1) := by decide +kernel
theorem dX3_gainOf_26 : decode cX3_gainOf 26 = .ok (.aload_n 0, 1) := by decide +kernel
theorem dX3_gainOf_27 : decode cX3_gainOf 27 = .ok (.getfield 12, 3) := by decide +kernel
theorem dX3_gainOf_30 : decode cX3_gainOf 30 = .ok (.getfield 31, 3) := by decide +kernel
theorem dX3_gainOf_33 : decode cX3_gainOf 33 = .ok (.iconst 0, 1) := by decide +kernel
theorem dX3_gainOf_34 : decode cX3_gainOf 34 = .ok (.iaload, 1) := by decide +kernel
theorem dX3_gainOf_35 : decode cX3_gainOf 35 = .ok (.invokevirtual 35, 3) := by decide +kernel
theorem dX3_gainOf_38 : decode cX3_gainOf 38 = .ok (.iadd, 1) := by decide +kernel
theorem dX3_gainOf_39 : decode cX3_gainOf 39 = .ok (.istore 4, 2) := by decide +kernel
theorem dX3_gainOf_41 : decode cX3_gainOf 41 = .ok (.aload_n 0, 1) := by decide +kernel
theorem dX3_gainOf_42 : decode cX3_gainOf 42 = .ok (.getfield 12, 3) := by decide +kernel
theorem dX3_gainOf_45 : decode cX3_gainOf 45 = .ok (.aload_n 1, 1) := by decide +kernel
theorem dX3_gainOf_46 : decode cX3_gainOf 46 = .ok (.aload_n 3, 1) := by decide +kernel
theorem dX3_gainOf_47 : decode cX3_gainOf 47 = .ok (.getfield 41, 3) := by decide +kernel
theorem dX3_gainOf_50 : decode cX3_gainOf 50 = .ok (.iload 5, 2) := by decide +kernel
theorem dX3_gainOf_52 : decode cX3_gainOf 52 = .ok (.iaload, 1) := by decide +kernel
theorem dX3_gainOf_53 : decode cX3_gainOf 53 = .ok (.invokevirtual 44, 3) := by decide +kernel
theorem dX3_gainOf_56 : decode cX3_gainOf 56 = .ok (.pop, 1) := by decide +kernel
theorem dX3_gainOf_57 : decode cX3_gainOf 57 = .ok (.iinc 5 1, 3) := by decide +kernel
theorem dX3_gainOf_60 : decode cX3_gainOf 60 = .ok (.goto (-46), 3) := by decide +kernel
theorem dX3_gainOf_63 : decode cX3_gainOf 63 = .ok (.aload_n 0, 1) := by decide +kernel
theorem dX3_gainOf_64 : decode cX3_gainOf 64 = .ok (.aload_n 0, 1) := by decide +kernel
theorem dX3_gainOf_65 : decode cX3_gainOf 65 = .ok (.getfield 12, 3) := by decide +kernel
theorem dX3_gainOf_68 : decode cX3_gainOf 68 = .ok (.getfield 31, 3) := by decide +kernel
theorem dX3_gainOf_71 : decode cX3_gainOf 71 = .ok (.iconst 0, 1) := by decide +kernel
theorem dX3_gainOf_72 : decode cX3_gainOf 72 = .ok (.iaload, 1) := by decide +kernel
theorem dX3_gainOf_73 : decode cX3_gainOf 73 = .ok (.putfield 18, 3) := by decide +kernel
theorem dX3_gainOf_76 : decode cX3_gainOf 76 = .ok (.iload 4, 2) := by decide +kernel
theorem dX3_gainOf_78 : decode cX3_gainOf 78 = .ok (.ireturn, 1) := by decide +kernel
theorem dX3_firstLurch_0 : decode cX3_firstLurch 0 = .ok (.aload_n 0, 1) := by decide +kernel
theorem dX3_firstLurch_1 : decode cX3_firstLurch 1 = .ok (.getfield 12, 3) := by decide +kernel
theorem dX3_firstLurch_4 : decode cX3_firstLurch 4 = .ok (.aload_n 2, 1) := by decide +kernel
theorem dX3_firstLurch_5 : decode cX3_firstLurch 5 = .ok (.invokevirtual 22, 3) := by decide +kernel
theorem dX3_firstLurch_8 : decode cX3_firstLurch 8 = .ok (.iconst 0, 1) := by decide +kernel
theorem dX3_firstLurch_9 : decode cX3_firstLurch 9 = .ok (.istore 5, 2) := by decide +kernel
theorem dX3_firstLurch_11 : decode cX3_firstLurch 11 = .ok (.iload 5, 2) := by decide +kernel
theorem dX3_firstLurch_13 : decode cX3_firstLurch 13 = .ok (.aload_n 1, 1) := by decide +kernel
theorem dX3_firstLurch_14 : decode cX3_firstLurch 14 = .ok (.getfield 48, 3) := by decide +kernel
theorem dX3_firstLurch_17 : decode cX3_firstLurch 17 = .ok (.if_icmp .ge 33, 3) := by decide +kernel
theorem dX3_firstLurch_20 : decode cX3_firstLurch 20 = .ok (.iload 4, 2) := by decide +kernel
theorem dX3_firstLurch_22 : decode cX3_firstLurch 22 = .ok (.iload 5, 2) := by decide +kernel
theorem dX3_firstLurch_24 : decode cX3_firstLurch 24 = .ok (.ishr, 1) := by decide +kernel
theorem dX3_firstLurch_25 : decode cX3_firstLurch 25 = .ok (.iconst 1, 1) := by decide +kernel
theorem dX3_firstLurch_26 : decode cX3_firstLurch 26 = .ok (.iand, 1) := by decide +kernel
theorem dX3_firstLurch_27 : decode cX3_firstLurch 27 = .ok (.ifCond .eq 17, 3) := by decide +kernel
theorem dX3_firstLurch_30 : decode cX3_firstLurch 30 = .ok (.aload_n 0, 1) := by decide +kernel
theorem dX3_firstLurch_31 : decode cX3_firstLurch 31 = .ok (.getfield 12, 3) := by decide +kernel
theorem dX3_firstLurch_34 : decode cX3_firstLurch 34 = .ok (.getfield 31, 3) := by decide +kernel
theorem dX3_firstLurch_37 : decode cX3_firstLurch 37 = .ok (.iconst 2, 1) := by decide +kernel
theorem dX3_firstLurch_38 : decode cX3_firstLurch 38 = .ok (.iload 5, 2) := by decide +kernel
theorem dX3_firstLurch_40 : decode cX3_firstLurch 40 = .ok (.iadd, 1) := by decide +kernel
theorem dX3_firstLurch_41 : decode cX3_firstLurch 41 = .ok (.bipush 9, 2) := by decide +kernel
theorem dX3_firstLurch_43 : decode cX3_firstLurch 43 = .ok (.iastore, 1) := by decide +kernel
theorem dX3_firstLurch_44 : decode cX3_firstLurch 44 = .ok (.iinc 5 1, 3) := by decide +kernel
theorem dX3_firstLurch_47 : decode cX3_firstLurch 47 = .ok (.goto (-36), 3) := by decide +kernel
theorem dX3_firstLurch_50 : decode cX3_firstLurch 50 = .ok (.iconst 0, 1) := by decide +kernel
theorem dX3_firstLurch_51 : decode cX3_firstLurch 51 = .ok (.istore 5, 2) := by decide +kernel
theorem dX3_firstLurch_53 : decode cX3_firstLurch 53 = .ok (.iload 5, 2) := by decide +kernel
theorem dX3_firstLurch_55 : decode cX3_firstLurch 55 = .ok (.aload_n 3, 1) := by decide +kernel
theorem dX3_firstLurch_56 : decode cX3_firstLurch 56 = .ok (.getfield 26, 3) := by decide +kernel
theorem dX3_firstLurch_59 : decode cX3_firstLurch 59 = .ok (.if_icmp .ge 49, 3) := by decide +kernel
theorem dX3_firstLurch_62 : decode cX3_firstLurch 62 = .ok (.aload_n 0, 1) := by decide +kernel
theorem dX3_firstLurch_63 : decode cX3_firstLurch 63 = .ok (.getfield 12, 3) := by decide +kernel
theorem dX3_firstLurch_66 : decode cX3_firstLurch 66 = .ok (.aload_n 1, 1) := by decide +kernel
theorem dX3_firstLurch_67 : decode cX3_firstLurch 67 = .ok (.aload_n 3, 1) := by decide +kernel
theorem dX3_firstLurch_68 : decode cX3_firstLurch 68 = .ok (.getfield 41, 3) := by decide +kernel
theorem dX3_firstLurch_71 : decode cX3_firstLurch 71 = .ok (.iload 5, 2) := by decide +kernel
theorem dX3_firstLurch_73 : decode cX3_firstLurch 73 = .ok (.iaload, 1) := by decide +kernel
theorem dX3_firstLurch_74 : decode cX3_firstLurch 74 = .ok (.invokevirtual 44, 3) := by decide +kernel
theorem dX3_firstLurch_77 : decode cX3_firstLurch 77 = .ok (.pop, 1) := by decide +kernel
theorem dX3_firstLurch_78 : decode cX3_firstLurch 78 = .ok (.aload_n 0, 1) := by decide +kernel
theorem dX3_firstLurch_79 : decode cX3_firstLurch 79 = .ok (.getfield 12, 3) := by decide +kernel
theorem dX3_firstLurch_82 : decode cX3_firstLurch 82 = .ok (.getfield 51, 3) := by decide +kernel
theorem dX3_firstLurch_85 : decode cX3_firstLurch 85 = .ok (.ifCond .eq 17, 3) := by decide +kernel
theorem dX3_firstLurch_88 : decode cX3_firstLurch 88 = .ok (.aload_n 0, 1) := by decide +kernel
theorem dX3_firstLurch_89 : decode cX3_firstLurch 89 = .ok (.aload_n 0, 1) := by decide +kernel
theorem dX3_firstLurch_90 : decode cX3_firstLurch 90 = .ok (.getfield 12, 3) := by decide +kernel
theorem dX3_firstLurch_93 : decode cX3_firstLurch 93 = .ok (.getfield 51, 3) := by decide +kernel
theorem dX3_firstLurch_96 : decode cX3_firstLurch 96 = .ok (.putfield 18, 3) := by decide +kernel
theorem dX3_firstLurch_99 : decode cX3_firstLurch 99 = .ok (.iload 5, 2) := by decide +kernel
theorem dX3_firstLurch_101 : decode cX3_firstLurch 101 = .ok (.ireturn, 1) := by decide +kernel
theorem dX3_firstLurch_102 : decode cX3_firstLurch 102 = .ok (.iinc 5 1, 3) := by decide +kernel
theorem dX3_firstLurch_105 : decode cX3_firstLurch 105 = .ok (.goto (-52), 3) := by decide +kernel
theorem dX3_firstLurch_108 : decode cX3_firstLurch 108 = .ok (.bipush (-9), 2) := by decide +kernel
theorem dX3_firstLurch_110 : decode cX3_firstLurch 110 = .ok (.ireturn, 1) := by decide +kernel
theorem dX3_fewestRopes_0 : decode cX3_fewestRopes 0 = .ok (.bipush 6, 2) := by decide +kernel
theorem dX3_fewestRopes_2 : decode cX3_fewestRopes 2 = .ok (.istore 4, 2) := by decide +kernel
theorem dX3_fewestRopes_4 : decode cX3_fewestRopes 4 = .ok (.iconst 0, 1) := by decide +kernel
theorem dX3_fewestRopes_5 : decode cX3_fewestRopes 5 = .ok (.istore 5, 2) := by decide +kernel
theorem dX3_fewestRopes_7 : decode cX3_fewestRopes 7 = .ok (.iconst 0, 1) := by decide +kernel
theorem dX3_fewestRopes_8 : decode cX3_fewestRopes 8 = .ok (.istore 6, 2) := by decide +kernel
theorem dX3_fewestRopes_10 : decode cX3_fewestRopes 10 = .ok (.iload 6, 2) := by decide +kernel
theorem dX3_fewestRopes_12 : decode cX3_fewestRopes 12 = .ok (.aload_n 1, 1) := by decide +kernel
theorem dX3_fewestRopes_13 : decode cX3_fewestRopes 13 = .ok (.invokevirtual 54, 3) := by decide +kernel
theorem dX3_fewestRopes_16 : decode cX3_fewestRopes 16 = .ok (.if_icmp .gt 45, 3) := by decide +kernel
theorem dX3_fewestRopes_19 : decode cX3_fewestRopes 19 = .ok (.iload 6, 2) := by decide +kernel
theorem dX3_fewestRopes_21 : decode cX3_fewestRopes 21 = .ok (.invokestatic 58, 3) := by decide +kernel
theorem dX3_fewestRopes_24 : decode cX3_fewestRopes 24 = .ok (.istore 7, 2) := by decide +kernel
theorem dX3_fewestRopes_26 : decode cX3_fewestRopes 26 = .ok (.iload 7, 2) := by decide +kernel
theorem dX3_fewestRopes_28 : decode cX3_fewestRopes 28 = .ok (.iload 4, 2) := by decide +kernel
theorem dX3_fewestRopes_30 : decode cX3_fewestRopes 30 = .ok (.if_icmp .ge 25, 3) := by decide +kernel
theorem dX3_fewestRopes_33 : decode cX3_fewestRopes 33 = .ok (.aload_n 0, 1) := by decide +kernel
theorem dX3_fewestRopes_34 : decode cX3_fewestRopes 34 = .ok (.aload_n 1, 1) := by decide +kernel
theorem dX3_fewestRopes_35 : decode cX3_fewestRopes 35 = .ok (.aload_n 2, 1) := by decide +kernel
theorem dX3_fewestRopes_36 : decode cX3_fewestRopes 36 = .ok (.aload_n 3, 1) := by decide +kernel
theorem dX3_fewestRopes_37 : decode cX3_fewestRopes 37 = .ok (.iload 6, 2) := by decide +kernel
theorem dX3_fewestRopes_39 : decode cX3_fewestRopes 39 = .ok (.invokevirtual 63, 3) := by decide +kernel
theorem dX3_fewestRopes_42 : decode cX3_fewestRopes 42 = .ok (.bipush (-9), 2) := by decide +kernel
theorem dX3_fewestRopes_44 : decode cX3_fewestRopes 44 = .ok (.if_icmp .ne 11, 3) := by decide +kernel
theorem dX3_fewestRopes_47 : decode cX3_fewestRopes 47 = .ok (.iload 7, 2) := by decide +kernel
theorem dX3_fewestRopes_49 : decode cX3_fewestRopes 49 = .ok (.istore 4, 2) := by decide +kernel
theorem dX3_fewestRopes_51 : decode cX3_fewestRopes 51 = .ok (.iload 6, 2) := by decide +kernel
theorem dX3_fewestRopes_53 : decode cX3_fewestRopes 53 = .ok (.istore 5, 2) := by decide +kernel
theorem dX3_fewestRopes_55 : decode cX3_fewestRopes 55 = .ok (.iinc 6 1, 3) := by decide +kernel
theorem dX3_fewestRopes_58 : decode cX3_fewestRopes 58 = .ok (.goto (-48), 3) := by decide +kernel
theorem dX3_fewestRopes_61 : decode cX3_fewestRopes 61 = .ok (.aload_n 0, 1) := by decide +kernel
theorem dX3_fewestRopes_62 : decode cX3_fewestRopes 62 = .ok (.iload 5, 2) := by decide +kernel
theorem dX3_fewestRopes_64 : decode cX3_fewestRopes 64 = .ok (.putfield 18, 3) := by decide +kernel
theorem dX3_fewestRopes_67 : decode cX3_fewestRopes 67 = .ok (.iload 4, 2) := by decide +kernel
theorem dX3_fewestRopes_69 : decode cX3_fewestRopes 69 = .ok (.iconst 5, 1) := by decide +kernel
theorem dX3_fewestRopes_70 : decode cX3_fewestRopes 70 = .ok (.if_icmp .le 8, 3) := by decide +kernel
theorem dX3_fewestRopes_73 : decode cX3_fewestRopes 73 = .ok (.bipush (-9), 2) := by decide +kernel
theorem dX3_fewestRopes_75 : decode cX3_fewestRopes 75 = .ok (.goto 5, 3) := by decide +kernel
theorem dX3_fewestRopes_78 : decode cX3_fewestRopes 78 = .ok (.iload 4, 2) := by decide +kernel
theorem dX3_fewestRopes_80 : decode cX3_fewestRopes 80 = .ok (.ireturn, 1) := by decide +kernel
theorem dX3_hoursTillDown_0 : decode cX3_hoursTillDown 0 = .ok (.aload_n 0, 1) := by decide +kernel
theorem dX3_hoursTillDown_1 : decode cX3_hoursTillDown 1 = .ok (.getfield 12, 3) := by decide +kernel
theorem dX3_hoursTillDown_4 : decode cX3_hoursTillDown 4 = .ok (.aload_n 2, 1) := by decide +kernel
theorem dX3_hoursTillDown_5 : decode cX3_hoursTillDown 5 = .ok (.invokevirtual 22, 3) := by decide +kernel
theorem dX3_hoursTillDown_8 : decode cX3_hoursTillDown 8 = .ok (.iconst 0, 1) := by decide +kernel
theorem dX3_hoursTillDown_9 : decode cX3_hoursTillDown 9 = .ok (.istore 4, 2) := by decide +kernel
theorem dX3_hoursTillDown_11 : decode cX3_hoursTillDown 11 = .ok (.iload 4, 2) := by decide +kernel
theorem dX3_hoursTillDown_13 : decode cX3_hoursTillDown 13 = .ok (.bipush 48, 2) := by decide +kernel
theorem dX3_hoursTillDown_15 : decode cX3_hoursTillDown 15 = .ok (.if_icmp .ge 29, 3) := by decide +kernel
theorem dX3_hoursTillDown_18 : decode cX3_hoursTillDown 18 = .ok (.aload_n 0, 1) := by decide +kernel
theorem dX3_hoursTillDown_19 : decode cX3_hoursTillDown 19 = .ok (.getfield 12, 3) := by decide +kernel
theorem dX3_hoursTillDown_22 : decode cX3_hoursTillDown 22 = .ok (.invokevirtual 67, 3) := by decide +kernel
theorem dX3_hoursTillDown_25 : decode cX3_hoursTillDown 25 = .ok (.ifCond .ne 19, 3) := by decide +kernel
theorem dX3_hoursTillDown_28 : decode cX3_hoursTillDown 28 = .ok (.aload_n 0, 1) := by decide +kernel
theorem dX3_hoursTillDown_29 : decode cX3_hoursTillDown 29 = .ok (.getfield 12, 3) := by decide +kernel
theorem dX3_hoursTillDown_32 : decode cX3_hoursTillDown 32 = .ok (.aload_n 1, 1) := by decide +kernel
theorem dX3_hoursTillDown_33 : decode cX3_hoursTillDown 33 = .ok (.iload_n 3, 1) := by decide +kernel
theorem dX3_hoursTillDown_34 : decode cX3_hoursTillDown 34 = .ok (.invokevirtual 44, 3) := by decide +kernel
theorem dX3_hoursTillDown_37 : decode cX3_hoursTillDown 37 = .ok (.pop, 1) := by decide +kernel
theorem dX3_hoursTillDown_38 : decode cX3_hoursTillDown 38 = .ok (.iinc 4 1, 3) := by decide +kernel
theorem dX3_hoursTillDown_41 : decode cX3_hoursTillDown 41 = .ok (.goto (-30), 3) := by decide +kernel
theorem dX3_hoursTillDown_44 : decode cX3_hoursTillDown 44 = .ok (.iload 4, 2) := by decide +kernel
theorem dX3_hoursTillDown_46 : decode cX3_hoursTillDown 46 = .ok (.ireturn, 1) := by decide +kernel
theorem dX4_init_0 : decode cX4_init 0 = .ok (.aload_n 0, 1) := by decide +kernel
theorem dX4_init_1 : decode cX4_init 1 = .ok (.invokespecial 3, 3) := by decide +kernel
theorem dX4_init_4 : decode cX4_init 4 = .ok (.aload_n 0, 1) := by decide +kernel
theorem dX4_init_5 : decode cX4_init 5 = .ok (.bipush 15, 2) := by decide +kernel
theorem dX4_init_7 : decode cX4_init 7 = .ok (.newarray .int, 2) := by decide +kernel
theorem dX4_init_9 : decode cX4_init 9 = .ok (.putfield 9, 3) := by decide +kernel
theorem dX4_init_12 : decode cX4_init 12 = .ok (.aload_n 0, 1) := by decide +kernel
theorem dX4_init_13 : decode cX4_init 13 = .ok (.bipush 16, 2) := by decide +kernel
theorem dX4_init_15 : decode cX4_init 15 = .ok (.newarray .int, 2) := by decide +kernel
theorem dX4_init_17 : decode cX4_init 17 = .ok (.putfield 15, 3) := by decide +kernel
theorem dX4_init_20 : decode cX4_init 20 = .ok (.aload_n 0, 1) := by decide +kernel
theorem dX4_init_21 : decode cX4_init 21 = .ok (.iconst 0, 1) := by decide +kernel
theorem dX4_init_22 : decode cX4_init 22 = .ok (.putfield 18, 3) := by decide +kernel
theorem dX4_init_25 : decode cX4_init 25 = .ok (.aload_n 0, 1) := by decide +kernel
theorem dX4_init_26 : decode cX4_init 26 = .ok (.iconst 0, 1) := by decide +kernel
theorem dX4_init_27 : decode cX4_init 27 = .ok (.putfield 22, 3) := by decide +kernel
theorem dX4_init_30 : decode cX4_init 30 = .ok (.return_, 1) := by decide +kernel
theorem dX4_faultIn_0 : decode cX4_faultIn 0 = .ok (.aload_n 0, 1) := by decide +kernel
theorem dX4_faultIn_1 : decode cX4_faultIn 1 = .ok (.iconst 0, 1) := by decide +kernel
theorem dX4_faultIn_2 : decode cX4_faultIn 2 = .ok (.putfield 18, 3) := by decide +kernel
theorem dX4_faultIn_5 : decode cX4_faultIn 5 = .ok (.aload_n 0, 1) := by decide +kernel
theorem dX4_faultIn_6 : decode cX4_faultIn 6 = .ok (.iconst 0, 1) := by decide +kernel
theorem dX4_faultIn_7 : decode cX4_faultIn 7 = .ok (.putfield 22, 3) := by decide +kernel
theorem dX4_faultIn_10 : decode cX4_faultIn 10 = .ok (.iconst 0, 1) := by decide +kernel
theorem dX4_faultIn_11 : decode cX4_faultIn 11 = .ok (.istore_n 2, 1) := by decide +kernel
theorem dX4_faultIn_12 : decode cX4_faultIn 12 = .ok (.iload_n 2, 1) := by decide +kernel
theorem dX4_faultIn_13 : decode cX4_faultIn 13 = .ok (.aload_n 1, 1) := by decide +kernel
theorem dX4_faultIn_14 : decode cX4_faultIn 14 = .ok (.getfield 25, 3) := by decide +kernel
theorem dX4_faultIn_17 : decode cX4_faultIn 17 = .ok (.if_icmp .ge 86, 3) := by decide +kernel
theorem dX4_faultIn_20 : decode cX4_faultIn 20 = .ok (.aload_n 1, 1) := by decide +kernel
theorem dX4_faultIn_21 : decode cX4_faultIn 21 = .ok (.getfield 30, 3) := by decide +kernel
theorem dX4_faultIn_24 : decode cX4_faultIn 24 = .ok (.iload_n 2, 1) := by decide +kernel
theorem dX4_faultIn_25 : decode cX4_faultIn 25 = .ok (.baload, 1) := by decide +kernel
theorem dX4_faultIn_26 : decode cX4_faultIn 26 = .ok (.istore_n 3, 1) := by decide +kernel
theorem dX4_faultIn_27 : decode cX4_faultIn 27 = .ok (.iload_n 3, 1) := by decide +kernel
theorem dX4_faultIn_28 : decode cX4_faultIn 28 = .ok (.bipush 32, 2) := by decide +kernel
theorem dX4_faultIn_30 : decode cX4_faultIn 30 = .ok (.if_icmp .ne 9, 3) := by decide +kernel
theorem dX4_faultIn_33 : decode cX4_faultIn 33 = .ok (.iinc 2 1, 3) := by decide +kernel
theorem dX4_faultIn_36 : decode cX4_faultIn 36 = .ok (.goto (-24), 3) := by decide +kernel
theorem dX4_faultIn_39 : decode cX4_faultIn 39 = .ok (.iload_n 3, 1) := by decide +kernel
theorem dX4_faultIn_40 : decode cX4_faultIn 40 = .ok (.invokestatic 34, 3) := by decide +kernel
theorem dX4_faultIn_43 : decode cX4_faultIn 43 = .ok (.bipush (-9), 2) := by decide +kernel
theorem dX4_faultIn_45 : decode cX4_faultIn 45 = .ok (.if_icmp .eq 7, 3) := by decide +kernel
theorem dX4_faultIn_48 : decode cX4_faultIn 48 = .ok (.iconst 1, 1) := by decide +kernel
theorem dX4_faultIn_49 : decode cX4_faultIn 49 = .ok (.goto 4, 3) := by decide +kernel
theorem dX4_faultIn_52 : decode cX4_faultIn 52 = .ok (.iconst 0, 1) := by decide +kernel
theorem dX4_faultIn_53 : decode cX4_faultIn 53 = .ok (.istore 4, 2) := by decide +kernel
theorem dX4_faultIn_55 : decode cX4_faultIn 55 = .ok (.iload 4, 2) := by decide +kernel
theorem dX4_faultIn_57 : decode cX4_faultIn 57 = .ok (.ifCond .eq 12, 3) := by decide +kernel
theorem dX4_faultIn_60 : decode cX4_faultIn 60 = .ok (.aload_n 0, 1) := by decide +kernel
theorem dX4_faultIn_61 : decode cX4_faultIn 61 = .ok (.aload_n 1, 1) := by decide +kernel
theorem dX4_faultIn_62 : decode cX4_faultIn 62 = .ok (.iload_n 2, 1) := by decide +kernel
theorem dX4_faultIn_63 : decode cX4_faultIn 63 = .ok (.invokevirtual 38, 3) := by decide +kernel
theorem dX4_faultIn_66 : decode cX4_faultIn 66 = .ok (.goto 9, 3) := by decide +kernel
theorem dX4_faultIn_69 : decode cX4_faultIn 69 = .ok (.aload_n 0, 1) := by decide +kernel
theorem dX4_faultIn_70 : decode cX4_faultIn 70 = .ok (.aload_n 1, 1) := by decide +kernel
theorem dX4_faultIn_71 : decode cX4_faultIn 71 = .ok (.iload_n 2, 1) := by decide +kernel
theorem dX4_faultIn_72 : decode cX4_faultIn 72 = .ok (.invokevirtual 42, 3) := by decide +kernel
theorem dX4_faultIn_75 : decode cX4_faultIn 75 = .ok (.istore 5, 2) := by decide +kernel
theorem dX4_faultIn_77 : decode cX4_faultIn 77 = .ok (.iload 5, 2) := by decide +kernel
theorem dX4_faultIn_79 : decode cX4_faultIn 79 = .ok (.bipush (-9), 2) := by decide +kernel
theorem dX4_faultIn_81 : decode cX4_faultIn 81 = .ok (.if_icmp .eq 6, 3) := by decide +kernel
theorem dX4_faultIn_84 : decode cX4_faultIn 84 = .ok (.iload 5, 2) := by decide +kernel
theorem dX4_faultIn_86 : decode cX4_faultIn 86 = .ok (.ireturn, 1) := by decide +kernel
theorem dX4_faultIn_87 : decode cX4_faultIn 87 = .ok (.iload_n 2, 1) := by decide +kernel
theorem dX4_faultIn_88 : decode cX4_faultIn 88 = .ok (.iload 4, 2) := by decide +kernel
theorem dX4_faultIn_90 : decode cX4_faultIn 90 = .ok (.ifCond .eq 7, 3) := by decide +kernel
theorem dX4_faultIn_93 : decode cX4_faultIn 93 = .ok (.iconst 3, 1) := by decide +kernel
theorem dX4_faultIn_94 : decode cX4_faultIn 94 = .ok (.goto 4, 3) := by decide +kernel
theorem dX4_faultIn_97 : decode cX4_faultIn 97 = .ok (.iconst 4, 1) := by decide +kernel
theorem dX4_faultIn_98 : decode cX4_faultIn 98 = .ok (.iadd, 1) := by decide +kernel
theorem dX4_faultIn_99 : decode cX4_faultIn 99 = .ok (.istore_n 2, 1) := by decide +kernel
theorem dX4_faultIn_100 : decode cX4_faultIn 100 = .ok (.goto (-88), 3) := by decide +kernel
theorem dX4_faultIn_103 : decode cX4_faultIn 103 = .ok (.aload_n 0, 1) := by decide +kernel
theorem dX4_faultIn_104 : decode cX4_faultIn 104 = .ok (.getfield 18, 3) := by decide +kernel
theorem dX4_faultIn_107 : decode cX4_faultIn 107 = .ok (.ifCond .ne 10, 3) := by decide +kernel
theorem dX4_faultIn_110 : decode cX4_faultIn 110 = .ok (.aload_n 1, 1) := by decide +kernel
theorem dX4_faultIn_111 : decode cX4_faultIn 111 = .ok (.getfield 25, 3) := by decide +kernel
theorem dX4_faultIn_114 : decode cX4_faultIn 114 = .ok (.goto 5, 3) := by decide +kernel
theorem dX4_faultIn_117 : decode cX4_faultIn 117 = .ok (.bipush (-9), 2) := by decide +kernel
theorem dX4_faultIn_119 : decode cX4_faultIn 119 = .ok (.ireturn, 1) := by decide +kernel
theorem dX4_faultInCape_0 : decode cX4_faultInCape 0 = .ok (.aload_n 0, 1) := by decide +kernel
theorem dX4_faultInCape_1 : decode cX4_faultInCape 1 = .ok (.getfield 18, 3) := by decide +kernel
theorem dX4_faultInCape_4 : decode cX4_faultInCape 4 = .ok (.iconst 5, 1) := by decide +kernel
theorem dX4_faultInCape_5 : decode cX4_faultInCape 5 = .ok (.if_icmp .ge 10, 3) := by decide +kernel
theorem dX4_faultInCape_8 : decode cX4_faultInCape 8 = .ok (.aload_n 0, 1) := by decide +kernel
theorem dX4_faultInCape_9 : decode cX4_faultInCape 9 = .ok (.getfield 22, 3) := by decide +kernel
theorem dX4_faultInCape_12 : decode cX4_faultInCape 12 = .ok (.ifCond .le 5, 3) := by decide +kernel
theorem dX4_faultInCape_15 : decode cX4_faultInCape 15 = .ok (.iload_n 2, 1) := by decide +kernel
theorem dX4_faultInCape_16 : decode cX4_faultInCape 16 = .ok (.ireturn, 1) := by decide +kernel
theorem dX4_faultInCape_17 : decode cX4_faultInCape 17 = .ok (.aload_n 0, 1) := by decide +kernel
theorem dX4_faultInCape_18 : decode cX4_faultInCape 18 = .ok (.getfield 18, 3) := by decide +kernel
theorem dX4_faultInCape_21 : decode cX4_faultInCape 21 = .ok (.iconst 3, 1) := by decide +kernel
theorem dX4_faultInCape_22 : decode cX4_faultInCape 22 = .ok (.imul, 1) := by decide +kernel
theorem dX4_faultInCape_23 : decode cX4_faultInCape 23 = .ok (.istore_n 3, 1) := by decide +kernel
theorem dX4_faultInCape_24 : decode cX4_faultInCape 24 = .ok (.aload_n 0, 1) := by decide +kernel
theorem dX4_faultInCape_25 : decode cX4_faultInCape 25 = .ok (.getfield 9, 3) := by decide +kernel
theorem dX4_faultInCape_28 : decode cX4_faultInCape 28 = .ok (.iload_n 3, 1) := by decide +kernel
theorem dX4_faultInCape_29 : decode cX4_faultInCape 29 = .ok (.aload_n 1, 1) := by decide +kernel
theorem dX4_faultInCape_30 : decode cX4_faultInCape 30 = .ok (.getfield 30, 3) := by decide +kernel
theorem dX4_faultInCape_33 : decode cX4_faultInCape 33 = .ok (.iload_n 2, 1) := by decide +kernel
theorem dX4_faultInCape_34 : decode cX4_faultInCape 34 = .ok (.baload, 1) := by decide +kernel
theorem dX4_faultInCape_35 : decode cX4_faultInCape 35 = .ok (.invokestatic 34, 3) := by decide +kernel
theorem dX4_faultInCape_38 : decode cX4_faultInCape 38 = .ok (.iastore, 1) := by decide +kernel
theorem dX4_faultInCape_39 : decode cX4_faultInCape 39 = .ok (.iconst 1, 1) := by decide +kernel
theorem dX4_faultInCape_40 : decode cX4_faultInCape 40 = .ok (.istore 4, 2) := by decide +kernel
theorem dX4_faultInCape_42 : decode cX4_faultInCape 42 = .ok (.iload 4, 2) := by decide +kernel
theorem dX4_faultInCape_44 : decode cX4_faultInCape 44 = .ok (.iconst 3, 1) := by decide +kernel
theorem dX4_faultInCape_45 : decode cX4_faultInCape 45 = .ok (.if_icmp .ge 42, 3) := by decide +kernel
theorem dX4_faultInCape_48 : decode cX4_faultInCape 48 = .ok (.aload_n 1, 1) := by decide +kernel
theorem dX4_faultInCape_49 : decode cX4_faultInCape 49 = .ok (.iload_n 2, 1) := by decide +kernel
theorem dX4_faultInCape_50 : decode cX4_faultInCape 50 = .ok (.iload 4, 2) := by decide +kernel
theorem dX4_faultInCape_52 : decode cX4_faultInCape 52 = .ok (.iadd, 1) := by decide +kernel
theorem dX4_faultInCape_53 : decode cX4_faultInCape 53 = .ok (.invokestatic 45, 3) := by decide +kernel
theorem dX4_faultInCape_56 : decode cX4_faultInCape 56 = .ok (.istore 5, 2) := by decide +kernel
theorem dX4_faultInCape_58 : decode cX4_faultInCape 58 = .ok (.iload 5, 2) := by decide +kernel
theorem dX4_faultInCape_60 : decode cX4_faultInCape 60 = .ok (.bipush (-9), 2) := by decide +kernel
theorem dX4_faultInCape_62 : decode cX4_faultInCape 62 = .ok (.if_icmp .ne 8, 3) := by decide +kernel
theorem dX4_faultInCape_65 : decode cX4_faultInCape 65 = .ok (.iload_n 2, 1) := by decide +kernel
theorem dX4_faultInCape_66 : decode cX4_faultInCape 66 = .ok (.iload 4, 2) := by decide +kernel
theorem dX4_faultInCape_68 : decode cX4_faultInCape 68 = .ok (.iadd, 1) := by decide +kernel
theorem dX4_faultInCape_69 : decode cX4_faultInCape 69 = .ok (.ireturn, 1) := by decide +kernel
theorem dX4_faultInCape_70 : decode cX4_faultInCape 70 = .ok (.aload_n 0, 1) := by decide +kernel
theorem dX4_faultInCape_71 : decode cX4_faultInCape 71 = .ok (.getfield 9, 3) := by decide +kernel
theorem dX4_faultInCape_74 : decode cX4_faultInCape 74 = .ok (.iload_n 3, 1) := by decide +kernel
theorem dX4_faultInCape_75 : decode cX4_faultInCape 75 = .ok (.iload 4, 2) := by decide +kernel
theorem dX4_faultInCape_77 : decode cX4_faultInCape 77 = .ok (.iadd, 1) := by decide +kernel
theorem dX4_faultInCape_78 : decode cX4_faultInCape 78 = .ok (.iload 5, 2) := by decide +kernel
theorem dX4_faultInCape_80 : decode cX4_faultInCape 80 = .ok (.iastore, 1) := by decide +kernel
theorem dX4_faultInCape_81 : decode cX4_faultInCape 81 = .ok (.iinc 4 1, 3) := by decide +kernel
theorem dX4_faultInCape_84 : decode cX4_faultInCape 84 = .ok (.goto (-42), 3) := by decide +kernel
theorem dX4_faultInCape_87 : decode cX4_faultInCape 87 = .ok (.aload_n 0, 1) := by decide +kernel
theorem dX4_faultInCape_88 : decode cX4_faultInCape 88 = .ok (.dup, 1) := by decide +kernel
theorem dX4_faultInCape_89 : decode cX4_faultInCape 89 = .ok (.getfield 18, 3) := by decide +kernel
theorem dX4_faultInCape_92 : decode cX4_faultInCape 92 = .ok (.iconst 1, 1) := by decide +kernel
theorem dX4_faultInCape_93 : decode cX4_faultInCape 93 = .ok (.iadd, 1) := by decide +kernel
theorem dX4_faultInCape_94 : decode cX4_faultInCape 94 = .ok (.putfield 18, 3) := by decide +kernel
theorem dX4_faultInCape_97 : decode cX4_faultInCape 97 = .ok (.bipush (-9), 2) := by decide +kernel
theorem dX4_faultInCape_99 : decode cX4_faultInCape 99 = .ok (.ireturn, 1) := by decide +kernel
theorem dX4_faultInValley_0 : decode cX4_faultInValley 0 = .ok (.aload_n 1, 1) := by decide +kernel
theorem dX4_faultInValley_1 : decode cX4_faultInValley 1 = .ok (.getfield 30, 3) := by decide +kernel
theorem dX4_faultInValley_4 : decode cX4_faultInValley 4 = .ok (.iload_n 2, 1) := by decide +kernel
theorem dX4_faultInValley_5 : decode cX4_faultInValley 5 = .ok (.baload, 1) := by decide +kernel
theorem dX4_faultInValley_6 : decode cX4_faultInValley 6 = .ok (.istore_n 3, 1) := by decide +kernel
theorem dX4_faultInValley_7 : decode cX4_faultInValley 7 = .ok (.iload_n 3, 1) := by decide +kernel
theorem dX4_faultInValley_8 : decode cX4_faultInValley 8 = .ok (.bipush 118, 2) := by decide +kernel
theorem dX4_faultInValley_10 : decode cX4_faultInValley 10 = .ok (.if_icmp .eq 11, 3) := by decide +kernel
theorem dX4_faultInValley_13 : decode cX4_faultInValley 13 = .ok (.iload_n 3, 1) := by decide +kernel
theorem dX4_faultInValley_14 : decode cX4_faultInValley 14 = .ok (.bipush 100, 2) := by decide +kernel
theorem dX4_faultInValley_16 : decode cX4_faultInValley 16 = .ok (.if_icmp .eq 5, 3) := by decide +kernel
theorem dX4_faultInValley_19 : decode cX4_faultInValley 19 = .ok (.iload_n 2, 1) := by decide +kernel
theorem dX4_faultInValley_20 : decode cX4_faultInValley 20 = .ok (.ireturn, 1) := by decide +kernel
theorem dX4_faultInValley_21 : decode cX4_faultInValley 21 = .ok (.aload_n 0, 1) := by decide +kernel
theorem dX4_faultInValley_22 : decode cX4_faultInValley 22 = .ok (.getfield 18, 3) := by decide +kernel
theorem dX4_faultInValley_25 : decode cX4_faultInValley 25 = .ok (.ifCond .eq 11, 3) := by decide +kernel
theorem dX4_faultInValley_28 : decode cX4_faultInValley 28 = .ok (.aload_n 0, 1) := by decide +kernel
theorem dX4_faultInValley_29 : decode cX4_faultInValley 29 = .ok (.getfield 22, 3) := by decide +kernel
theorem dX4_faultInValley_32 : decode cX4_faultInValley 32 = .ok (.iconst 4, 1) := by decide +kernel
theorem dX4_faultInValley_33 : decode cX4_faultInValley 33 = .ok (.if_icmp .lt 5, 3) := by decide +kernel
theorem dX4_faultInValley_36 : decode cX4_faultInValley 36 = .ok (.iload_n 2, 1) := by decide +kernel
theorem dX4_faultInValley_37 : decode cX4_faultInValley 37 = .ok (.ireturn, 1) := by decide +kernel
theorem dX4_faultInValley_38 : decode cX4_faultInValley 38 = .ok (.aload_n 0, 1) := by decide +kernel
theorem dX4_faultInValley_39 : decode cX4_faultInValley 39 = .ok (.getfield 22, 3) := by decide +kernel
theorem dX4_faultInValley_42 : decode cX4_faultInValley 42 = .ok (.iconst 4, 1) := by decide +kernel
theorem dX4_faultInValley_43 : decode cX4_faultInValley 43 = .ok (.imul, 1) := by decide +kernel
theorem dX4_faultInValley_44 : decode cX4_faultInValley 44 = .ok (.istore 4, 2) := by decide +kernel
theorem dX4_faultInValley_46 : decode cX4_faultInValley 46 = .ok (.aload_n 0, 1) := by decide +kernel
theorem dX4_faultInValley_47 : decode cX4_faultInValley 47 = .ok (.getfield 15, 3) := by decide +kernel
theorem dX4_faultInValley_50 : decode cX4_faultInValley 50 = .ok (.iload 4, 2) := by decide +kernel
theorem dX4_faultInValley_52 : decode cX4_faultInValley 52 = .ok (.iload_n 3, 1) := by decide +kernel
theorem dX4_faultInValley_53 : decode cX4_faultInValley 53 = .ok (.bipush 118, 2) := by decide +kernel
theorem dX4_faultInValley_55 : decode cX4_faultInValley 55 = .ok (.if_icmp .ne 7, 3) := by decide +kernel
theorem dX4_faultInValley_58 : decode cX4_faultInValley 58 = .ok (.iconst 1, 1) := by decide +kernel
theorem dX4_faultInValley_59 : decode cX4_faultInValley 59 = .ok (.goto 4, 3) := by decide +kernel
theorem dX4_faultInValley_62 : decode cX4_faultInValley 62 = .ok (.iconst 0, 1) := by decide +kernel
theorem dX4_faultInValley_63 : decode cX4_faultInValley 63 = .ok (.iastore, 1) := by decide +kernel
theorem dX4_faultInValley_64 : decode cX4_faultInValley 64 = .ok (.iconst 1, 1) := by decide +kernel
theorem dX4_faultInValley_65 : decode cX4_faultInValley 65 = .ok (.istore 5, 2) := by decide +kernel
theorem dX4_faultInValley_67 : decode cX4_faultInValley 67 = .ok (.iload 5, 2) := by decide +kernel
theorem dX4_faultInValley_69 : decode cX4_faultInValley 69 = .ok (.iconst 4, 1) := by decide +kernel
theorem dX4_faultInValley_70 : decode cX4_faultInValley 70 = .ok (.if_icmp .ge 67, 3) := by decide +kernel
theorem dX4_faultInValley_73 : decode cX4_faultInValley 73 = .ok (.aload_n 1, 1) := by decide +kernel
theorem dX4_faultInValley_74 : decode cX4_faultInValley 74 = .ok (.iload_n 2, 1) := by decide +kernel
theorem dX4_faultInValley_75 : decode cX4_faultInValley 75 = .ok (.iload 5, 2) := by decide +kernel
theorem dX4_faultInValley_77 : decode cX4_faultInValley 77 = .ok (.iadd, 1) := by decide +kernel
theorem dX4_faultInValley_78 : decode cX4_faultInValley 78 = .ok (.invokestatic 45, 3) := by decide +kernel
theorem dX4_faultInValley_81 : decode cX4_faultInValley 81 = .ok (.istore 6, 2) := by decide +kernel
theorem dX4_faultInValley_83 : decode cX4_faultInValley 83 = .ok (.iload 6, 2) := by decide +kernel
theorem dX4_faultInValley_85 : decode cX4_faultInValley 85 = .ok (.aload_n 0, 1) := by decide +kernel
theorem dX4_faultInValley_86 : decode cX4_faultInValley 86 = .ok (.iload 4, 2) := by decide +kernel
theorem dX4_faultInValley_88 : decode cX4_faultInValley 88 = .ok (.iload 5, 2) := by decide +kernel
theorem dX4_faultInValley_90 : decode cX4_faultInValley 90 = .ok (.invokevirtual 48, 3) := by decide +kernel
theorem dX4_faultInValley_93 : decode cX4_faultInValley 93 = .ok (.if_icmp .lt 21, 3) := by decide +kernel
theorem dX4_faultInValley_96 : decode cX4_faultInValley 96 = .ok (.iload 6, 2) := by decide +kernel
theorem dX4_faultInValley_98 : decode cX4_faultInValley 98 = .ok (.iload 5, 2) := by decide +kernel
theorem dX4_faultInValley_100 : decode cX4_faultInValley 100 = .ok (.iconst 3, 1) := by decide +kernel
theorem dX4_faultInValley_101 : decode cX4_faultInValley 101 = .ok (.if_icmp .ne 8, 3) := by decide +kernel
theorem dX4_faultInValley_104 : decode cX4_faultInValley 104 = .ok (.bipush 9, 2) := by decide +kernel
theorem dX4_faultInValley_106 : decode cX4_faultInValley 106 = .ok (.goto 5, 3) := by decide +kernel
theorem dX4_faultInValley_109 : decode cX4_faultInValley 109 = .ok (.bipush 7, 2) := by decide +kernel
theorem dX4_faultInValley_111 : decode cX4_faultInValley 111 = .ok (.if_icmp .le 8, 3) := by decide +kernel
theorem dX4_faultInValley_114 : decode cX4_faultInValley 114 = .ok (.iload_n 2, 1) := by decide +kernel
theorem dX4_faultInValley_115 : decode cX4_faultInValley 115 = .ok (.iload 5, 2) := by decide +kernel
theorem dX4_faultInValley_117 : decode cX4_faultInValley 117 = .ok (.iadd, 1) := by decide +kernel
theorem dX4_faultInValley_118 : decode cX4_faultInValley 118 = .ok (.ireturn, 1) := by decide +kernel
theorem dX4_faultInValley_119 : decode cX4_faultInValley 119 = .ok (.aload_n 0, 1) := by decide +kernel
theorem dX4_faultInValley_120 : decode cX4_faultInValley 120 = .ok (.getfield 15, 3) := by decide +kernel
theorem dX4_faultInValley_123 : decode cX4_faultInValley 123 = .ok (.iload 4, 2) := by decide +kernel
theorem dX4_faultInValley_125 : decode cX4_faultInValley 125 = .ok (.iload 5, 2) := by decide +kernel
theorem dX4_faultInValley_127 : decode cX4_faultInValley 127 = .ok (.iadd, 1) := by decide +kernel
theorem dX4_faultInValley_128 : decode cX4_faultInValley 128 = .ok (.iload 6, 2) := by decide +kernel
theorem dX4_faultInValley_130 : decode cX4_faultInValley 130 = .ok (.iastore, 1) := by decide +kernel
theorem dX4_faultInValley_131 : decode cX4_faultInValley 131 = .ok (.iinc 5 1, 3) := by decide +kernel
theorem dX4_faultInValley_134 : decode cX4_faultInValley 134 = .ok (.goto (-67), 3) := by decide +kernel
theorem dX4_faultInValley_137 : decode cX4_faultInValley 137 = .ok (.aload_n 0, 1) := by decide +kernel
theorem dX4_faultInValley_138 : decode cX4_faultInValley 138 = .ok (.dup, 1) := by decide +kernel
theorem dX4_faultInValley_139 : decode cX4_faultInValley 139 = .ok (.getfield 22, 3) := by decide +kernel
theorem dX4_faultInValley_142 : decode cX4_faultInValley 142 = .ok (.iconst 1, 1) := by decide +kernel
theorem dX4_faultInValley_143 : decode cX4_faultInValley 143 = .ok (.iadd, 1) := by decide +kernel
theorem dX4_faultInValley_144 : decode cX4_faultInValley 144 = .ok (.putfield 22, 3) := by decide +kernel
theorem dX4_faultInValley_147 : decode cX4_faultInValley 147 = .ok (.bipush (-9), 2) := by decide +kernel
theorem dX4_faultInValley_149 : decode cX4_faultInValley 149 = .ok (.ireturn, 1) := by decide +kernel
theorem dX4_leastFigure_0 : decode cX4_leastFigure 0 = .ok (.iload_n 2, 1) := by decide +kernel
theorem dX4_leastFigure_1 : decode cX4_leastFigure 1 = .ok (.iconst 1, 1) := by decide +kernel
theorem dX4_leastFigure_2 : decode cX4_leastFigure 2 = .ok (.if_icmp .ne 5, 3) := by decide +kernel
theorem dX4_leastFigure_5 : decode cX4_leastFigure 5 = .ok (.iconst 0, 1) := by decide +kernel
theorem dX4_leastFigure_6 : decode cX4_leastFigure 6 = .ok (.ireturn, 1) := by decide +kernel
theorem dX4_leastFigure_7 : decode cX4_leastFigure 7 = .ok (.iload_n 2, 1) := by decide +kernel
theorem dX4_leastFigure_8 : decode cX4_leastFigure 8 = .ok (.iconst 2, 1) := by decide +kernel
theorem dX4_leastFigure_9 : decode cX4_leastFigure 9 = .ok (.if_icmp .ne 14, 3) := by decide +kernel
theorem dX4_leastFigure_12 : decode cX4_leastFigure 12 = .ok (.aload_n 0, 1) := by decide +kernel
theorem dX4_leastFigure_13 : decode cX4_leastFigure 13 = .ok (.getfield 15, 3) := by decide +kernel
theorem dX4_leastFigure_16 : decode cX4_leastFigure 16 = .ok (.iload_n 1, 1) := by decide +kernel
theorem dX4_leastFigure_17 : decode cX4_leastFigure 17 = .ok (.iconst 1, 1) := by decide +kernel
theorem dX4_leastFigure_18 : decode cX4_leastFigure 18 = .ok (.iadd, 1) := by decide +kernel
theorem dX4_leastFigure_19 : decode cX4_leastFigure 19 = .ok (.iaload, 1) := by decide +kernel
theorem dX4_leastFigure_20 : decode cX4_leastFigure 20 = .ok (.goto 4, 3) := by decide +kernel
theorem dX4_leastFigure_23 : decode cX4_leastFigure 23 = .ok (.iconst 1, 1) := by decide +kernel
theorem dX4_leastFigure_24 : decode cX4_leastFigure 24 = .ok (.ireturn, 1) := by decide +kernel
theorem dX4_figureAt_0 : decode cX4_figureAt 0 = .ok (.iload_n 1, 1) := by decide +kernel
theorem dX4_figureAt_1 : decode cX4_figureAt 1 = .ok (.aload_n 0, 1) := by decide +kernel
theorem dX4_figureAt_2 : decode cX4_figureAt 2 = .ok (.getfield 25, 3) := by decide +kernel
theorem dX4_figureAt_5 : decode cX4_figureAt 5 = .ok (.if_icmp .lt 6, 3) := by decide +kernel
theorem dX4_figureAt_8 : decode cX4_figureAt 8 = .ok (.bipush (-9), 2) := by decide +kernel
theorem dX4_figureAt_10 : decode cX4_figureAt 10 = .ok (.ireturn, 1) := by decide +kernel
theorem dX4_figureAt_11 : decode cX4_figureAt 11 = .ok (.aload_n 0, 1) := by decide +kernel
theorem dX4_figureAt_12 : decode cX4_figureAt 12 = .ok (.getfield 30, 3) := by decide +kernel
theorem dX4_figureAt_15 : decode cX4_figureAt 15 = .ok (.iload_n 1, 1) := by decide +kernel
theorem dX4_figureAt_16 : decode cX4_figureAt 16 = .ok (.baload, 1) := by decide +kernel
theorem dX4_figureAt_17 : decode cX4_figureAt 17 = .ok (.bipush 48, 2) := by decide +kernel
theorem dX4_figureAt_19 : decode cX4_figureAt 19 = .ok (.isub, 1) := by decide +kernel
theorem dX4_figureAt_20 : decode cX4_figureAt 20 = .ok (.istore_n 2, 1) := by decide +kernel
theorem dX4_figureAt_21 : decode cX4_figureAt 21 = .ok (.iload_n 2, 1) := by decide +kernel
theorem dX4_figureAt_22 : decode cX4_figureAt 22 = .ok (.ifCond .lt 9, 3) := by decide +kernel
theorem dX4_figureAt_25 : decode cX4_figureAt 25 = .ok (.iload_n 2, 1) := by decide +kernel
theorem dX4_figureAt_26 : decode cX4_figureAt 26 = .ok (.bipush 9, 2) := by decide +kernel
theorem dX4_figureAt_28 : decode cX4_figureAt 28 = .ok (.if_icmp .le 8, 3) := by decide +kernel
theorem dX4_figureAt_31 : decode cX4_figureAt 31 = .ok (.bipush (-9), 2) := by decide +kernel
theorem dX4_figureAt_33 : decode cX4_figureAt 33 = .ok (.goto 4, 3) := by decide +kernel
theorem dX4_figureAt_36 : decode cX4_figureAt 36 = .ok (.iload_n 2, 1) := by decide +kernel
theorem dX4_figureAt_37 : decode cX4_figureAt 37 = .ok (.ireturn, 1) := by decide +kernel
theorem dX4_kindOf_0 : decode cX4_kindOf 0 = .ok (.iconst 0, 1) := by decide +kernel
theorem dX4_kindOf_1 : decode cX4_kindOf 1 = .ok (.istore_n 1, 1) := by decide +kernel
theorem dX4_kindOf_2 : decode cX4_kindOf 2 = .ok (.iload_n 1, 1) := by decide +kernel
theorem dX4_kindOf_3 : decode cX4_kindOf 3 = .ok (.bipush 6, 2) := by decide +kernel
theorem dX4_kindOf_5 : decode cX4_kindOf 5 = .ok (.if_icmp .ge 20, 3) := by decide +kernel
theorem dX4_kindOf_8 : decode cX4_kindOf 8 = .ok (.getstatic 52, 3) := by decide +kernel
theorem dX4_kindOf_11 : decode cX4_kindOf 11 = .ok (.iload_n 1, 1) := by decide +kernel
theorem dX4_kindOf_12 : decode cX4_kindOf 12 = .ok (.iaload, 1) := by decide +kernel
theorem dX4_kindOf_13 : decode cX4_kindOf 13 = .ok (.iload_n 0, 1) := by decide +kernel
theorem dX4_kindOf_14 : decode cX4_kindOf 14 = .ok (.if_icmp .ne 5, 3) := by decide +kernel
theorem dX4_kindOf_17 : decode cX4_kindOf 17 = .ok (.iload_n 1, 1) := by decide +kernel
theorem dX4_kindOf_18 : decode cX4_kindOf 18 = .ok (.ireturn, 1) := by decide +kernel
theorem dX4_kindOf_19 : decode cX4_kindOf 19 = .ok (.iinc 1 1, 3) := by decide +kernel
theorem dX4_kindOf_22 : decode cX4_kindOf 22 = .ok (.goto (-20), 3) := by decide +kernel
theorem dX4_kindOf_25 : decode cX4_kindOf 25 = .ok (.bipush (-9), 2) := by decide +kernel
theorem dX4_kindOf_27 : decode cX4_kindOf 27 = .ok (.ireturn, 1) := by decide +kernel
theorem dX5_init_0 : decode cX5_init 0 = .ok (.aload_n 0, 1) := by decide +kernel
theorem dX5_init_1 : decode cX5_init 1 = .ok (.invokespecial 3, 3) := by decide +kernel
theorem dX5_init_4 : decode cX5_init 4 = .ok (.aload_n 0, 1) := by decide +kernel
theorem dX5_init_5 : decode cX5_init 5 = .ok (.bipush 40, 2) := by decide +kernel
theorem dX5_init_7 : decode cX5_init 7 = .ok (.newarray .int, 2) := by decide +kernel
theorem dX5_init_9 : decode cX5_init 9 = .ok (.putfield 9, 3) := by decide +kernel
theorem dX5_init_12 : decode cX5_init 12 = .ok (.aload_n 0, 1) := by decide +kernel
theorem dX5_init_13 : decode cX5_init 13 = .ok (.iconst (-1), 1) := by decide +kernel
theorem dX5_init_14 : decode cX5_init 14 = .ok (.putfield 15, 3) := by decide +kernel
theorem dX5_init_17 : decode cX5_init 17 = .ok (.return_, 1) := by decide +kernel
theorem dX5_isThere_0 : decode cX5_isThere 0 = .ok (.aload_n 0, 1) := by decide +kernel
theorem dX5_isThere_1 : decode cX5_isThere 1 = .ok (.getfield 15, 3) := by decide +kernel
theorem dX5_isThere_4 : decode cX5_isThere 4 = .ok (.ifCond .lt 7, 3) := by decide +kernel
theorem dX5_isThere_7 : decode cX5_isThere 7 = .ok (.iconst 1, 1) := by decide +kernel
theorem dX5_isThere_8 : decode cX5_isThere 8 = .ok (.goto 4, 3) := by decide +kernel
theorem dX5_isThere_11 : decode cX5_isThere 11 = .ok (.iconst 0, 1) := by decide +kernel
theorem dX5_isThere_12 : decode cX5_isThere 12 = .ok (.ireturn, 1) := by decide +kernel
theorem dX5_hasMany_0 : decode cX5_hasMany 0 = .ok (.iload_n 1, 1) := by decide +kernel
theorem dX5_hasMany_1 : decode cX5_hasMany 1 = .ok (.ifCond .lt 21, 3) := by decide +kernel
theorem dX5_hasMany_4 : decode cX5_hasMany 4 = .ok (.iload_n 2, 1) := by decide +kernel
theorem dX5_hasMany_5 : decode cX5_hasMany 5 = .ok (.ifCond .lt 17, 3) := by decide +kernel
theorem dX5_hasMany_8 : decode cX5_hasMany 8 = .ok (.iload_n 1, 1) := by decide +kernel
theorem dX5_hasMany_9 : decode cX5_hasMany 9 = .ok (.aload_n 0, 1) := by decide +kernel
theorem dX5_hasMany_10 : decode cX5_hasMany 10 = .ok (.getfield 15, 3) := by decide +kernel
theorem dX5_hasMany_13 : decode cX5_hasMany 13 = .ok (.iload_n 2, 1) := by decide +kernel
theorem dX5_hasMany_14 : decode cX5_hasMany 14 = .ok (.isub, 1) := by decide +kernel
theorem dX5_hasMany_15 : decode cX5_hasMany 15 = .ok (.if_icmp .gt 7, 3) := by decide +kernel
theorem dX5_hasMany_18 : decode cX5_hasMany 18 = .ok (.iconst 1, 1) := by decide +kernel
theorem dX5_hasMany_19 : decode cX5_hasMany 19 = .ok (.goto 4, 3) := by decide +kernel
theorem dX5_hasMany_22 : decode cX5_hasMany 22 = .ok (.iconst 0, 1) := by decide +kernel
theorem dX5_hasMany_23 : decode cX5_hasMany 23 = .ok (.ireturn, 1) := by decide +kernel
theorem dX5_begin_0 : decode cX5_begin 0 = .ok (.aload_n 0, 1) := by decide +kernel
theorem dX5_begin_1 : decode cX5_begin 1 = .ok (.getfield 9, 3) := by decide +kernel
theorem dX5_begin_4 : decode cX5_begin 4 = .ok (.iconst 0, 1) := by decide +kernel
theorem dX5_begin_5 : decode cX5_begin 5 = .ok (.invokestatic 19, 3) := by decide +kernel
theorem dX5_begin_8 : decode cX5_begin 8 = .ok (.aload_n 0, 1) := by decide +kernel
theorem dX5_begin_9 : decode cX5_begin 9 = .ok (.iload_n 1, 1) := by decide +kernel
theorem dX5_begin_10 : decode cX5_begin 10 = .ok (.putfield 15, 3) := by decide +kernel
theorem dX5_begin_13 : decode cX5_begin 13 = .ok (.return_, 1) := by decide +kernel
theorem dX5_take_0 : decode cX5_take 0 = .ok (.aload_n 1, 1) := by decide +kernel
theorem dX5_take_1 : decode cX5_take 1 = .ok (.iconst 0, 1) := by decide +kernel
theorem dX5_take_2 : decode cX5_take 2 = .ok (.aload_n 0, 1) := by decide +kernel
theorem dX5_take_3 : decode cX5_take 3 = .ok (.getfield 9, 3) := by decide +kernel
theorem dX5_take_6 : decode cX5_take 6 = .ok (.iconst 0, 1) := by decide +kernel
theorem dX5_take_7 : decode cX5_take 7 = .ok (.iload_n 2, 1) := by decide +kernel
theorem dX5_take_8 : decode cX5_take 8 = .ok (.invokestatic 25, 3) := by decide +kernel
theorem dX5_take_11 : decode cX5_take 11 = .ok (.aload_n 0, 1) := by decide +kernel
theorem dX5_take_12 : decode cX5_take 12 = .ok (.iload_n 2, 1) := by decide +kernel
theorem dX5_take_13 : decode cX5_take 13 = .ok (.putfield 15, 3) := by decide +kernel
theorem dX5_take_16 : decode cX5_take 16 = .ok (.return_, 1) := by decide +kernel
theorem dX5_sum_0 : decode cX5_sum 0 = .ok (.lconst 0, 1) := by decide +kernel
theorem dX5_sum_1 : decode cX5_sum 1 = .ok (.lstore_n 1, 1) := by decide +kernel
theorem dX5_sum_2 : decode cX5_sum 2 = .ok (.iconst 0, 1) := by decide +kernel
theorem dX5_sum_3 : decode cX5_sum 3 = .ok (.istore_n 3, 1) := by decide +kernel
theorem dX5_sum_4 : decode cX5_sum 4 = .ok (.iload_n 3, 1) := by decide +kernel
theorem dX5_sum_5 : decode cX5_sum 5 = .ok (.aload_n 0, 1) := by decide +kernel
theorem dX5_sum_6 : decode cX5_sum 6 = .ok (.getfield 15, 3) := by decide +kernel
theorem dX5_sum_9 : decode cX5_sum 9 = .ok (.if_icmp .ge 19, 3) := by decide +kernel
theorem dX5_sum_12 : decode cX5_sum 12 = .ok (.lload_n 1, 1) := by decide +kernel
theorem dX5_sum_13 : decode cX5_sum 13 = .ok (.aload_n 0, 1) := by decide +kernel
theorem dX5_sum_14 : decode cX5_sum 14 = .ok (.getfield 9, 3) := by decide +kernel
theorem dX5_sum_17 : decode cX5_sum 17 = .ok (.iload_n 3, 1) := by decide +kernel
theorem dX5_sum_18 : decode cX5_sum 18 = .ok (.iaload, 1) := by decide +kernel
theorem dX5_sum_19 : decode cX5_sum 19 = .ok (.i2l, 1) := by decide +kernel
theorem dX5_sum_20 : decode cX5_sum 20 = .ok (.ladd, 1) := by decide +kernel
theorem dX5_sum_21 : decode cX5_sum 21 = .ok (.lstore_n 1, 1) := by decide +kernel
theorem dX5_sum_22 : decode cX5_sum 22 = .ok (.iinc 3 1, 3) := by decide +kernel
theorem dX5_sum_25 : decode cX5_sum 25 = .ok (.goto (-21), 3) := by decide +kernel
theorem dX5_sum_28 : decode cX5_sum 28 = .ok (.lload_n 1, 1) := by decide +kernel
theorem dX5_sum_29 : decode cX5_sum 29 = .ok (.lreturn, 1) := by decide +kernel
theorem dX5_digestFrom_0 : decode cX5_digestFrom 0 = .ok (.ldc2_w 31, 3) := by decide +kernel
theorem dX5_digestFrom_3 : decode cX5_digestFrom 3 = .ok (.lload_n 1, 1) := by decide +kernel
theorem dX5_digestFrom_4 : decode cX5_digestFrom 4 = .ok (.lmul, 1) := by decide +kernel
theorem dX5_digestFrom_5 : decode cX5_digestFrom 5 = .ok (.aload_n 0, 1) := by decide +kernel
theorem dX5_digestFrom_6 : decode cX5_digestFrom 6 = .ok (.getfield 15, 3) := by decide +kernel
theorem dX5_digestFrom_9 : decode cX5_digestFrom 9 = .ok (.i2l, 1) := by decide +kernel
theorem dX5_digestFrom_10 : decode cX5_digestFrom 10 = .ok (.ladd, 1) := by decide +kernel
theorem dX5_digestFrom_11 : decode cX5_digestFrom 11 = .ok (.lstore_n 3, 1) := by decide +kernel
theorem dX5_digestFrom_12 : decode cX5_digestFrom 12 = .ok (.iconst 0, 1) := by decide +kernel
theorem dX5_digestFrom_13 : decode cX5_digestFrom 13 = .ok (.istore 5, 2) := by decide +kernel
theorem dX5_digestFrom_15 : decode cX5_digestFrom 15 = .ok (.iload 5, 2) := by decide +kernel
theorem dX5_digestFrom_17 : decode cX5_digestFrom 17 = .ok (.aload_n 0, 1) := by decide +kernel
theorem dX5_digestFrom_18 : decode cX5_digestFrom 18 = .ok (.getfield 15, 3) := by decide +kernel
theorem dX5_digestFrom_21 : decode cX5_digestFrom 21 = .ok (.if_icmp .ge 24, 3) := by decide +kernel
theorem dX5_digestFrom_24 : decode cX5_digestFrom 24 = .ok (.ldc2_w 31, 3) := by decide +kernel
theorem dX5_digestFrom_27 : decode cX5_digestFrom 27 = .ok (.lload_n 3, 1) := by decide +kernel
theorem dX5_digestFrom_28 : decode cX5_digestFrom 28 = .ok (.lmul, 1) := by decide +kernel
theorem dX5_digestFrom_29 : decode cX5_digestFrom 29 = .ok (.aload_n 0, 1) := by decide +kernel
theorem dX5_digestFrom_30 : decode cX5_digestFrom 30 = .ok (.getfield 9, 3) := by decide +kernel
theorem dX5_digestFrom_33 : decode cX5_digestFrom 33 = .ok (.iload 5, 2) := by decide +kernel
theorem dX5_digestFrom_35 : decode cX5_digestFrom 35 = .ok (.iaload, 1) := by decide +kernel
theorem dX5_digestFrom_36 : decode cX5_digestFrom 36 = .ok (.i2l, 1) := by decide +kernel
theorem dX5_digestFrom_37 : decode cX5_digestFrom 37 = .ok (.ladd, 1) := by decide +kernel
theorem dX5_digestFrom_38 : decode cX5_digestFrom 38 = .ok (.lstore_n 3, 1) := by decide +kernel
theorem dX5_digestFrom_39 : decode cX5_digestFrom 39 = .ok (.iinc 5 1, 3) := by decide +kernel
theorem dX5_digestFrom_42 : decode cX5_digestFrom 42 = .ok (.goto (-27), 3) := by decide +kernel
theorem dX5_digestFrom_45 : decode cX5_digestFrom 45 = .ok (.lload_n 3, 1) := by decide +kernel
theorem dX5_digestFrom_46 : decode cX5_digestFrom 46 = .ok (.lreturn, 1) := by decide +kernel
theorem dX6_init_0 : decode cX6_init 0 = .ok (.aload_n 0, 1) := by decide +kernel
theorem dX6_init_1 : decode cX6_init 1 = .ok (.invokespecial 3, 3) := by decide +kernel
theorem dX6_init_4 : decode cX6_init 4 = .ok (.aload_n 0, 1) := by decide +kernel
theorem dX6_init_5 : decode cX6_init 5 = .ok (.iconst 3, 1) := by decide +kernel
theorem dX6_init_6 : decode cX6_init 6 = .ok (.anewarray 9, 3) := by decide +kernel
theorem dX6_init_9 : decode cX6_init 9 = .ok (.putfield 11, 3) := by decide +kernel
theorem dX6_init_12 : decode cX6_init 12 = .ok (.aload_n 0, 1) := by decide +kernel
theorem dX6_init_13 : decode cX6_init 13 = .ok (.iconst 3, 1) := by decide +kernel
theorem dX6_init_14 : decode cX6_init 14 = .ok (.newarray .int, 2) := by decide +kernel
theorem dX6_init_16 : decode cX6_init 16 = .ok (.putfield 17, 3) := by decide +kernel
theorem dX6_init_19 : decode cX6_init 19 = .ok (.aload_n 0, 1) := by decide +kernel
theorem dX6_init_20 : decode cX6_init 20 = .ok (.iconst 3, 1) := by decide +kernel
theorem dX6_init_21 : decode cX6_init 21 = .ok (.newarray .int, 2) := by decide +kernel
theorem dX6_init_23 : decode cX6_init 23 = .ok (.putfield 21, 3) := by decide +kernel
theorem dX6_init_26 : decode cX6_init 26 = .ok (.aload_n 0, 1) := by decide +kernel
theorem dX6_init_27 : decode cX6_init 27 = .ok (.iconst 0, 1) := by decide +kernel
theorem dX6_init_28 : decode cX6_init 28 = .ok (.putfield 24, 3) := by decide +kernel
theorem dX6_init_31 : decode cX6_init 31 = .ok (.aload_n 0, 1) := by decide +kernel
theorem dX6_init_32 : decode cX6_init 32 = .ok (.iconst 0, 1) := by decide +kernel
theorem dX6_init_33 : decode cX6_init 33 = .ok (.putfield 28, 3) := by decide +kernel
theorem dX6_init_36 : decode cX6_init 36 = .ok (.aload_n 0, 1) := by decide +kernel
theorem dX6_init_37 : decode cX6_init 37 = .ok (.iconst 0, 1) := by decide +kernel
theorem dX6_init_38 : decode cX6_init 38 = .ok (.putfield 31, 3) := by decide +kernel
theorem dX6_init_41 : decode cX6_init 41 = .ok (.aload_n 0, 1) := by decide +kernel
theorem dX6_init_42 : decode cX6_init 42 = .ok (.iconst 0, 1) := by decide +kernel
theorem dX6_init_43 : decode cX6_init 43 = .ok (.putfield 34, 3) := by decide +kernel
theorem dX6_init_46 : decode cX6_init 46 = .ok (.aload_n 0, 1) := by decide +kernel
theorem dX6_init_47 : decode cX6_init 47 = .ok (.iconst 0, 1) := by decide +kernel
theorem dX6_init_48 : decode cX6_init 48 = .ok (.putfield 37, 3) := by decide +kernel
theorem dX6_init_51 : decode cX6_init 51 = .ok (.iconst 0, 1) := by decide +kernel
theorem dX6_init_52 : decode cX6_init 52 = .ok (.istore_n 1, 1) := by decide +kernel
theorem dX6_init_53 : decode cX6_init 53 = .ok (.iload_n 1, 1) := by decide +kernel
theorem dX6_init_54 : decode cX6_init 54 = .ok (.iconst 3, 1) := by decide +kernel
theorem dX6_init_55 : decode cX6_init 55 = .ok (.if_icmp .ge 22, 3) := by decide +kernel
theorem dX6_init_58 : decode cX6_init 58 = .ok (.aload_n 0, 1) := by decide +kernel
theorem dX6_init_59 : decode cX6_init 59 = .ok (.getfield 11, 3) := by decide +kernel
theorem dX6_init_62 : decode cX6_init 62 = .ok (.iload_n 1, 1) := by decide +kernel
theorem dX6_init_63 : decode cX6_init 63 = .ok (.new 9, 3) := by decide +kernel
theorem dX6_init_66 : decode cX6_init 66 = .ok (.dup, 1) := by decide +kernel
theorem dX6_init_67 : decode cX6_init 67 = .ok (.invokespecial 40, 3) := by decide +kernel
theorem dX6_init_70 : decode cX6_init 70 = .ok (.aastore, 1) := by decide +kernel
theorem dX6_init_71 : decode cX6_init 71 = .ok (.iinc 1 1, 3) := by decide +kernel
theorem dX6_init_74 : decode cX6_init 74 = .ok (.goto (-21), 3) := by decide +kernel
theorem dX6_init_77 : decode cX6_init 77 = .ok (.return_, 1) := by decide +kernel
theorem dX6_mostGain_0 : decode cX6_mostGain 0 = .ok (.aload_n 0, 1) := by decide +kernel
theorem dX6_mostGain_1 : decode cX6_mostGain 1 = .ok (.aload_n 2, 1) := by decide +kernel
theorem dX6_mostGain_2 : decode cX6_mostGain 2 = .ok (.iload_n 3, 1) := by decide +kernel
theorem dX6_mostGain_3 : decode cX6_mostGain 3 = .ok (.invokevirtual 41, 3) := by decide +kernel
theorem dX6_mostGain_6 : decode cX6_mostGain 6 = .ok (.aload_n 0, 1) := by decide +kernel
theorem dX6_mostGain_7 : decode cX6_mostGain 7 = .ok (.iconst (-1), 1) := by decide +kernel
theorem dX6_mostGain_8 : decode cX6_mostGain 8 = .ok (.putfield 28, 3) := by decide +kernel
theorem dX6_mostGain_11 : decode cX6_mostGain 11 = .ok (.aload_n 0, 1) := by decide +kernel
theorem dX6_mostGain_12 : decode cX6_mostGain 12 = .ok (.aload_n 1, 1) := by decide +kernel
theorem dX6_mostGain_13 : decode cX6_mostGain 13 = .ok (.iconst 0, 1) := by decide +kernel
theorem dX6_mostGain_14 : decode cX6_mostGain 14 = .ok (.iconst 0, 1) := by decide +kernel
theorem dX6_mostGain_15 : decode cX6_mostGain 15 = .ok (.invokevirtual 45, 3) := by decide +kernel
theorem dX6_mostGain_18 : decode cX6_mostGain 18 = .ok (.aload_n 0, 1) := by decide +kernel
theorem dX6_mostGain_19 : decode cX6_mostGain 19 = .ok (.getfield 28, 3) := by decide +kernel
theorem dX6_mostGain_22 : decode cX6_mostGain 22 = .ok (.ireturn, 1) := by decide +kernel
theorem dX6_seekMost_0 : decode cX6_seekMost 0 = .ok (.iload_n 2, 1) := by decide +kernel
theorem dX6_seekMost_1 : decode cX6_seekMost 1 = .ok (.aload_n 0, 1) := by decide +kernel
theorem dX6_seekMost_2 : decode cX6_seekMost 2 = .ok (.getfield 24, 3) := by decide +kernel
theorem dX6_seekMost_5 : decode cX6_seekMost 5 = .ok (.if_icmp .ge 8, 3) := by decide +kernel
theorem dX6_seekMost_8 : decode cX6_seekMost 8 = .ok (.iload_n 2, 1) := by decide +kernel
theorem dX6_seekMost_9 : decode cX6_seekMost 9 = .ok (.iconst 3, 1) := by decide +kernel
theorem dX6_seekMost_10 : decode cX6_seekMost 10 = .ok (.if_icmp .lt 17, 3) := by decide +kernel
theorem dX6_seekMost_13 : decode cX6_seekMost 13 = .ok (.iload_n 3, 1) := by decide +kernel
theorem dX6_seekMost_14 : decode cX6_seekMost 14 = .ok (.aload_n 0, 1) := by decide +kernel
theorem dX6_seekMost_15 : decode cX6_seekMost 15 = .ok (.getfield 28, 3) := by decide +kernel
theorem dX6_seekMost_18 : decode cX6_seekMost 18 = .ok (.if_icmp .le 8, 3) := by decide +kernel
theorem dX6_seekMost_21 : decode cX6_seekMost 21 = .ok (.aload_n 0, 1) := by decide +kernel
theorem dX6_seekMost_22 : decode cX6_seekMost 22 = .ok (.iload_n 3, 1) := by decide +kernel
theorem dX6_seekMost_23 : decode cX6_seekMost 23 = .ok (.invokevirtual 49, 3) := by decide +kernel
theorem dX6_seekMost_26 : decode cX6_seekMost 26 = .ok (.return_, 1) := by decide +kernel
theorem dX6_seekMost_27 : decode cX6_seekMost 27 = .ok (.aload_n 0, 1) := by decide +kernel
theorem dX6_seekMost_28 : decode cX6_seekMost 28 = .ok (.getfield 11, 3) := by decide +kernel
theorem dX6_seekMost_31 : decode cX6_seekMost 31 = .ok (.iload_n 2, 1) := by decide +kernel
theorem dX6_seekMost_32 : decode cX6_seekMost 32 = .ok (.aaload, 1) := by decide +kernel
theorem dX6_seekMost_33 : decode cX6_seekMost 33 = .ok (.astore 4, 2) := by decide +kernel
theorem dX6_seekMost_35 : decode cX6_seekMost 35 = .ok (.aload 4, 2) := by decide +kernel
theorem dX6_seekMost_37 : decode cX6_seekMost 37 = .ok (.aload_n 1, 1) := by decide +kernel
theorem dX6_seekMost_38 : decode cX6_seekMost 38 = .ok (.invokevirtual 53, 3) := by decide +kernel
theorem dX6_seekMost_41 : decode cX6_seekMost 41 = .ok (.iload_n 2, 1) := by decide +kernel
theorem dX6_seekMost_42 : decode cX6_seekMost 42 = .ok (.aload_n 0, 1) := by decide +kernel
theorem dX6_seekMost_43 : decode cX6_seekMost 43 = .ok (.getfield 24, 3) := by decide +kernel
theorem dX6_seekMost_46 : decode cX6_seekMost 46 = .ok (.iconst 1, 1) := by decide +kernel
theorem dX6_seekMost_47 : decode cX6_seekMost 47 = .ok (.isub, 1) := by decide +kernel
theorem dX6_seekMost_48 : decode cX6_seekMost 48 = .ok (.if_icmp .ne 7, 3) := by decide +kernel
theorem dX6_seekMost_51 : decode cX6_seekMost 51 = .ok (.iconst 0, 1) := by decide +kernel
theorem dX6_seekMost_52 : decode cX6_seekMost 52 = .ok (.goto 8, 3) := by decide +kernel
theorem dX6_seekMost_55 : decode cX6_seekMost 55 = .ok (.aload 4, 2) := by decide +kernel
theorem dX6_seekMost_57 : decode cX6_seekMost 57 = .ok (.getfield 57, 3) := by decide +kernel
theorem dX6_seekMost_60 : decode cX6_seekMost 60 = .ok (.istore 5, 2) := by decide +kernel
theorem dX6_seekMost_62 : decode cX6_seekMost 62 = .ok (.iload_n 3, 1) := by decide +kernel
theorem dX6_seekMost_63 : decode cX6_seekMost 63 = .ok (.aload_n 1, 1) := by decide +kernel
theorem dX6_seekMost_64 : decode cX6_seekMost 64 = .ok (.aload 4, 2) := by decide +kernel
theorem dX6_seekMost_66 : decode cX6_seekMost 66 = .ok (.getfield 60, 3) := by decide +kernel
theorem dX6_seekMost_69 : decode cX6_seekMost 69 = .ok (.iconst 0, 1) := by decide +kernel
theorem dX6_seekMost_70 : decode cX6_seekMost 70 = .ok (.iaload, 1) := by decide +kernel
theorem dX6_seekMost_71 : decode cX6_seekMost 71 = .ok (.invokevirtual 63, 3) := by decide +kernel
theorem dX6_seekMost_74 : decode cX6_seekMost 74 = .ok (.iadd, 1) := by decide +kernel
theorem dX6_seekMost_75 : decode cX6_seekMost 75 = .ok (.istore 6, 2) := by decide +kernel
theorem dX6_seekMost_77 : decode cX6_seekMost 77 = .ok (.iconst 0, 1) := by decide +kernel
theorem dX6_seekMost_78 : decode cX6_seekMost 78 = .ok (.istore 7, 2) := by decide +kernel
theorem dX6_seekMost_80 : decode cX6_seekMost 80 = .ok (.iload 7, 2) := by decide +kernel
theorem dX6_seekMost_82 : decode cX6_seekMost 82 = .ok (.iload 5, 2) := by decide +kernel
theorem dX6_seekMost_84 : decode cX6_seekMost 84 = .ok (.if_icmp .gt 37, 3) := by decide +kernel
theorem dX6_seekMost_87 : decode cX6_seekMost 87 = .ok (.iload 7, 2) := by decide +kernel
theorem dX6_seekMost_89 : decode cX6_seekMost 89 = .ok (.iload 5, 2) := by decide +kernel
theorem dX6_seekMost_91 : decode cX6_seekMost 91 = .ok (.iconst (-1), 1) := by decide +kernel
theorem dX6_seekMost_92 : decode cX6_seekMost 92 = .ok (.ixor, 1) := by decide +kernel
theorem dX6_seekMost_93 : decode cX6_seekMost 93 = .ok (.iand, 1) := by decide +kernel
theorem dX6_seekMost_94 : decode cX6_seekMost 94 = .ok (.ifCond .ne 21, 3) := by decide +kernel
theorem dX6_seekMost_97 : decode cX6_seekMost 97 = .ok (.aload_n 0, 1) := by decide +kernel
theorem dX6_seekMost_98 : decode cX6_seekMost 98 = .ok (.aload_n 1, 1) := by decide +kernel
theorem dX6_seekMost_99 : decode cX6_seekMost 99 = .ok (.iload_n 2, 1) := by decide +kernel
theorem dX6_seekMost_100 : decode cX6_seekMost 100 = .ok (.iload 7, 2) := by decide +kernel
theorem dX6_seekMost_102 : decode cX6_seekMost 102 = .ok (.invokevirtual 69, 3) := by decide +kernel
theorem dX6_seekMost_105 : decode cX6_seekMost 105 = .ok (.aload_n 0, 1) := by decide +kernel
theorem dX6_seekMost_106 : decode cX6_seekMost 106 = .ok (.aload_n 1, 1) := by decide +kernel
theorem dX6_seekMost_107 : decode cX6_seekMost 107 = .ok (.iload_n 2, 1) := by decide +kernel
theorem dX6_seekMost_108 : decode cX6_seekMost 108 = .ok (.iconst 1, 1) := by decide +kernel
theorem dX6_seekMost_109 : decode cX6_seekMost 109 = .ok (.iadd, 1) := by decide +kernel
theorem dX6_seekMost_110 : decode cX6_seekMost 110 = .ok (.iload 6, 2) := by decide +kernel
theorem dX6_seekMost_112 : decode cX6_seekMost 112 = .ok (.invokevirtual 45, 3) := by decide +kernel
theorem dX6_seekMost_115 : decode cX6_seekMost 115 = .ok (.iinc 7 1, 3) := by decide +kernel
theorem dX6_seekMost_118 : decode cX6_seekMost 118 = .ok (.goto (-38), 3) := by decide +kernel
theorem dX6_seekMost_121 : decode cX6_seekMost 121 = .ok (.return_, 1) := by decide +kernel
theorem dX6_leastMinute_0 : decode cX6_leastMinute 0 = .ok (.aload_n 0, 1) := by decide +kernel
theorem dX6_leastMinute_1 : decode cX6_leastMinute 1 = .ok (.aload_n 2, 1) := by decide +kernel
theorem dX6_leastMinute_2 : decode cX6_leastMinute 2 = .ok (.iload_n 3, 1) := by decide +kernel
theorem dX6_leastMinute_3 : decode cX6_leastMinute 3 = .ok (.invokevirtual 41, 3) := by decide +kernel
theorem dX6_leastMinute_6 : decode cX6_leastMinute 6 = .ok (.aload_n 0, 1) := by decide +kernel
theorem dX6_leastMinute_7 : decode cX6_leastMinute 7 = .ok (.sipush 1000, 3) := by decide +kernel
theorem dX6_leastMinute_10 : decode cX6_leastMinute 10 = .ok (.putfield 28, 3) := by decide +kernel
theorem dX6_leastMinute_13 : decode cX6_leastMinute 13 = .ok (.aload_n 0, 1) := by decide +kernel
theorem dX6_leastMinute_14 : decode cX6_leastMinute 14 = .ok (.aload_n 1, 1) := by decide +kernel
theorem dX6_leastMinute_15 : decode cX6_leastMinute 15 = .ok (.iconst 0, 1) := by decide +kernel
theorem dX6_leastMinute_16 : decode cX6_leastMinute 16 = .ok (.aload_n 2, 1) := by decide +kernel
theorem dX6_leastMinute_17 : decode cX6_leastMinute 17 = .ok (.getfield 60, 3) := by decide +kernel
theorem dX6_leastMinute_20 : decode cX6_leastMinute 20 = .ok (.iconst 0, 1) := by decide +kernel
theorem dX6_leastMinute_21 : decode cX6_leastMinute 21 = .ok (.iaload, 1) := by decide +kernel
theorem dX6_leastMinute_22 : decode cX6_leastMinute 22 = .ok (.invokevirtual 72, 3) := by decide +kernel
theorem dX6_leastMinute_25 : decode cX6_leastMinute 25 = .ok (.aload_n 0, 1) := by decide +kernel
theorem dX6_leastMinute_26 : decode cX6_leastMinute 26 = .ok (.getfield 28, 3) := by decide +kernel
theorem dX6_leastMinute_29 : decode cX6_leastMinute 29 = .ok (.ireturn, 1) := by decide +kernel
theorem dX6_seekSlowest_0 : decode cX6_seekSlowest 0 = .ok (.iload_n 2, 1) := by decide +kernel
theorem dX6_seekSlowest_1 : decode cX6_seekSlowest 1 = .ok (.aload_n 0, 1) := by decide +kernel
theorem dX6_seekSlowest_2 : decode cX6_seekSlowest 2 = .ok (.getfield 24, 3) := by decide +kernel
theorem dX6_seekSlowest_5 : decode cX6_seekSlowest 5 = .ok (.if_icmp .ge 8, 3) := by decide +kernel
theorem dX6_seekSlowest_8 : decode cX6_seekSlowest 8 = .ok (.iload_n 2, 1) := by decide +kernel
theorem dX6_seekSlowest_9 : decode cX6_seekSlowest 9 = .ok (.iconst 3, 1) := by decide +kernel
theorem dX6_seekSlowest_10 : decode cX6_seekSlowest 10 = .ok (.if_icmp .lt 17, 3) := by decide +kernel
theorem dX6_seekSlowest_13 : decode cX6_seekSlowest 13 = .ok (.iload_n 3, 1) := by decide +kernel
theorem dX6_seekSlowest_14 : decode cX6_seekSlowest 14 = .ok (.aload_n 0, 1) := by decide +kernel
theorem dX6_seekSlowest_15 : decode cX6_seekSlowest 15 = .ok (.getfield 28, 3) := by decide +kernel
theorem dX6_seekSlowest_18 : decode cX6_seekSlowest 18 = .ok (.if_icmp .ge 8, 3) := by decide +kernel
theorem dX6_seekSlowest_21 : decode cX6_seekSlowest 21 = .ok (.aload_n 0, 1) := by decide +kernel
theorem dX6_seekSlowest_22 : decode cX6_seekSlowest 22 = .ok (.iload_n 3, 1) := by decide +kernel
theorem dX6_seekSlowest_23 : decode cX6_seekSlowest 23 = .ok (.invokevirtual 49, 3) := by decide +kernel
theorem dX6_seekSlowest_26 : decode cX6_seekSlowest 26 = .ok (.return_, 1) := by decide +kernel
theorem dX6_seekSlowest_27 : decode cX6_seekSlowest 27 = .ok (.aload_n 0, 1) := by decide +kernel
theorem dX6_seekSlowest_28 : decode cX6_seekSlowest 28 = .ok (.getfield 11, 3) := by decide +kernel
theorem dX6_seekSlowest_31 : decode cX6_seekSlowest 31 = .ok (.iload_n 2, 1) := by decide +kernel
theorem dX6_seekSlowest_32 : decode cX6_seekSlowest 32 = .ok (.aaload, 1) := by decide +kernel
theorem dX6_seekSlowest_33 : decode cX6_seekSlowest 33 = .ok (.astore 4, 2) := by decide +kernel
theorem dX6_seekSlowest_35 : decode cX6_seekSlowest 35 = .ok (.aload 4, 2) := by decide +kernel
theorem dX6_seekSlowest_37 : decode cX6_seekSlowest 37 = .ok (.aload_n 1, 1) := by decide +kernel
theorem dX6_seekSlowest_38 : decode cX6_seekSlowest 38 = .ok (.invokevirtual 53, 3) := by decide +kernel
theorem dX6_seekSlowest_41 : decode cX6_seekSlowest 41 = .ok (.aload 4, 2) := by decide +kernel
theorem dX6_seekSlowest_43 : decode cX6_seekSlowest 43 = .ok (.getfield 57, 3) := by decide +kernel
theorem dX6_seekSlowest_46 : decode cX6_seekSlowest 46 = .ok (.aload 4, 2) := by decide +kernel
theorem dX6_seekSlowest_48 : decode cX6_seekSlowest 48 = .ok (.getfield 75, 3) := by decide +kernel
theorem dX6_seekSlowest_51 : decode cX6_seekSlowest 51 = .ok (.iconst (-1), 1) := by decide +kernel
theorem dX6_seekSlowest_52 : decode cX6_seekSlowest 52 = .ok (.ixor, 1) := by decide +kernel
theorem dX6_seekSlowest_53 : decode cX6_seekSlowest 53 = .ok (.iand, 1) := by decide +kernel
theorem dX6_seekSlowest_54 : decode cX6_seekSlowest 54 = .ok (.istore 5, 2) := by decide +kernel
theorem dX6_seekSlowest_56 : decode cX6_seekSlowest 56 = .ok (.iconst 0, 1) := by decide +kernel
theorem dX6_seekSlowest_57 : decode cX6_seekSlowest 57 = .ok (.istore 6, 2) := by decide +kernel
theorem dX6_seekSlowest_59 : decode cX6_seekSlowest 59 = .ok (.iload 6, 2) := by decide +kernel
theorem dX6_seekSlowest_61 : decode cX6_seekSlowest 61 = .ok (.iload 5, 2) := by decide +kernel
theorem dX6_seekSlowest_63 : decode cX6_seekSlowest 63 = .ok (.if_icmp .gt 43, 3) := by decide +kernel
theorem dX6_seekSlowest_66 : decode cX6_seekSlowest 66 = .ok (.iload 6, 2) := by decide +kernel
theorem dX6_seekSlowest_68 : decode cX6_seekSlowest 68 = .ok (.iload 5, 2) := by decide +kernel
theorem dX6_seekSlowest_70 : decode cX6_seekSlowest 70 = .ok (.iconst (-1), 1) := by decide +kernel
theorem dX6_seekSlowest_71 : decode cX6_seekSlowest 71 = .ok (.ixor, 1) := by decide +kernel
theorem dX6_seekSlowest_72 : decode cX6_seekSlowest 72 = .ok (.iand, 1) := by decide +kernel
theorem dX6_seekSlowest_73 : decode cX6_seekSlowest 73 = .ok (.ifCond .ne 27, 3) := by decide +kernel
theorem dX6_seekSlowest_76 : decode cX6_seekSlowest 76 = .ok (.aload_n 0, 1) := by decide +kernel
theorem dX6_seekSlowest_77 : decode cX6_seekSlowest 77 = .ok (.aload_n 1, 1) := by decide +kernel
theorem dX6_seekSlowest_78 : decode cX6_seekSlowest 78 = .ok (.iload_n 2, 1) := by decide +kernel
theorem dX6_seekSlowest_79 : decode cX6_seekSlowest 79 = .ok (.iload 6, 2) := by decide +kernel
theorem dX6_seekSlowest_81 : decode cX6_seekSlowest 81 = .ok (.invokevirtual 69, 3) := by decide +kernel
theorem dX6_seekSlowest_84 : decode cX6_seekSlowest 84 = .ok (.aload_n 0, 1) := by decide +kernel
theorem dX6_seekSlowest_85 : decode cX6_seekSlowest 85 = .ok (.aload_n 1, 1) := by decide +kernel
theorem dX6_seekSlowest_86 : decode cX6_seekSlowest 86 = .ok (.iload_n 2, 1) := by decide +kernel
theorem dX6_seekSlowest_87 : decode cX6_seekSlowest 87 = .ok (.iconst 1, 1) := by decide +kernel
theorem dX6_seekSlowest_88 : decode cX6_seekSlowest 88 = .ok (.iadd, 1) := by decide +kernel
theorem dX6_seekSlowest_89 : decode cX6_seekSlowest 89 = .ok (.aload 4, 2) := by decide +kernel
theorem dX6_seekSlowest_91 : decode cX6_seekSlowest 91 = .ok (.aload_n 1, 1) := by decide +kernel
theorem dX6_seekSlowest_92 : decode cX6_seekSlowest 92 = .ok (.iload 6, 2) := by decide +kernel
theorem dX6_seekSlowest_94 : decode cX6_seekSlowest 94 = .ok (.invokevirtual 78, 3) := by decide +kernel
theorem dX6_seekSlowest_97 : decode cX6_seekSlowest 97 = .ok (.invokevirtual 72, 3) := by decide +kernel
theorem dX6_seekSlowest_100 : decode cX6_seekSlowest 100 = .ok (.iinc 6 1, 3) := by decide +kernel
theorem dX6_seekSlowest_103 : decode cX6_seekSlowest 103 = .ok (.goto (-44), 3) := by decide +kernel
theorem dX6_seekSlowest_106 : decode cX6_seekSlowest 106 = .ok (.return_, 1) := by decide +kernel
theorem dX6_waysThatFit_0 : decode cX6_waysThatFit 0 = .ok (.aload_n 0, 1) := by decide +kernel
theorem dX6_waysThatFit_1 : decode cX6_waysThatFit 1 = .ok (.aload_n 2, 1) := by decide +kernel
theorem dX6_waysThatFit_2 : decode cX6_waysThatFit 2 = .ok (.aload 4, 2) := by decide +kernel
theorem dX6_waysThatFit_4 : decode cX6_waysThatFit 4 = .ok (.getfield 82, 3) := by decide +kernel
theorem dX6_waysThatFit_7 : decode cX6_waysThatFit 7 = .ok (.invokevirtual 41, 3) := by decide +kernel
theorem dX6_waysThatFit_10 : decode cX6_waysThatFit 10 = .ok (.aload_n 0, 1) := by decide +kernel
theorem dX6_waysThatFit_11 : decode cX6_waysThatFit 11 = .ok (.iconst 0, 1) := by decide +kernel
theorem dX6_waysThatFit_12 : decode cX6_waysThatFit 12 = .ok (.putfield 34, 3) := by decide +kernel
theorem dX6_waysThatFit_15 : decode cX6_waysThatFit 15 = .ok (.aload_n 0, 1) := by decide +kernel
theorem dX6_waysThatFit_16 : decode cX6_waysThatFit 16 = .ok (.iload_n 3, 1) := by decide +kernel
theorem dX6_waysThatFit_17 : decode cX6_waysThatFit 17 = .ok (.putfield 37, 3) := by decide +kernel
theorem dX6_waysThatFit_20 : decode cX6_waysThatFit 20 = .ok (.aload_n 0, 1) := by decide +kernel
theorem dX6_waysThatFit_21 : decode cX6_waysThatFit 21 = .ok (.aload_n 1, 1) := by decide +kernel
theorem dX6_waysThatFit_22 : decode cX6_waysThatFit 22 = .ok (.iconst 0, 1) := by decide +kernel
theorem dX6_waysThatFit_23 : decode cX6_waysThatFit 23 = .ok (.iload_n 3, 1) := by decide +kernel
theorem dX6_waysThatFit_24 : decode cX6_waysThatFit 24 = .ok (.iconst 0, 1) := by decide +kernel
theorem dX6_waysThatFit_25 : decode cX6_waysThatFit 25 = .ok (.aload 4, 2) := by decide +kernel
theorem dX6_waysThatFit_27 : decode cX6_waysThatFit 27 = .ok (.invokevirtual 87, 3) := by decide +kernel
theorem dX6_waysThatFit_30 : decode cX6_waysThatFit 30 = .ok (.aload_n 0, 1) := by decide +kernel
theorem dX6_waysThatFit_31 : decode cX6_waysThatFit 31 = .ok (.getfield 34, 3) := by decide +kernel
theorem dX6_waysThatFit_34 : decode cX6_waysThatFit 34 = .ok (.ireturn, 1) := by decide +kernel
theorem dX6_seekFitting_0 : decode cX6_seekFitting 0 = .ok (.iload_n 2, 1) := by decide +kernel
theorem dX6_seekFitting_1 : decode cX6_seekFitting 1 = .ok (.aload_n 0, 1) := by decide +kernel
theorem dX6_seekFitting_2 : decode cX6_seekFitting 2 = .ok (.getfield 24, 3) := by decide +kernel
theorem dX6_seekFitting_5 : decode cX6_seekFitting 5 = .ok (.if_icmp .ge 8, 3) := by decide +kernel
theorem dX6_seekFitting_8 : decode cX6_seekFitting 8 = .ok (.iload_n 2, 1) := by decide +kernel
theorem dX6_seekFitting_9 : decode cX6_seekFitting 9 = .ok (.iconst 3, 1) := by decide +kernel
theorem dX6_seekFitting_10 : decode cX6_seekFitting 10 = .ok (.if_icmp .lt 37, 3) := by decide +kernel
theorem dX6_seekFitting_13 : decode cX6_seekFitting 13 = .ok (.aload_n 0, 1) := by decide +kernel
theorem dX6_seekFitting_14 : decode cX6_seekFitting 14 = .ok (.getfield 34, 3) := by decide +kernel
theorem dX6_seekFitting_17 : decode cX6_seekFitting 17 = .ok (.ifCond .ne 8, 3) := by decide +kernel
theorem dX6_seekFitting_20 : decode cX6_seekFitting 20 = .ok (.aload_n 0, 1) := by decide +kernel
theorem dX6_seekFitting_21 : decode cX6_seekFitting 21 = .ok (.iconst 0, 1) := by decide +kernel
theorem dX6_seekFitting_22 : decode cX6_seekFitting 22 = .ok (.invokevirtual 49, 3) := by decide +kernel
theorem dX6_seekFitting_25 : decode cX6_seekFitting 25 = .ok (.aload_n 0, 1) := by decide +kernel
theorem dX6_seekFitting_26 : decode cX6_seekFitting 26 = .ok (.dup, 1) := by decide +kernel
theorem dX6_seekFitting_27 : decode cX6_seekFitting 27 = .ok (.getfield 34, 3) := by decide +kernel
theorem dX6_seekFitting_30 : decode cX6_seekFitting 30 = .ok (.iconst 1, 1) := by decide +kernel
theorem dX6_seekFitting_31 : decode cX6_seekFitting 31 = .ok (.iadd, 1) := by decide +kernel
theorem dX6_seekFitting_32 : decode cX6_seekFitting 32 = .ok (.putfield 34, 3) := by decide +kernel
theorem dX6_seekFitting_35 : decode cX6_seekFitting 35 = .ok (.aload_n 0, 1) := by decide +kernel
theorem dX6_seekFitting_36 : decode cX6_seekFitting 36 = .ok (.dup, 1) := by decide +kernel
theorem dX6_seekFitting_37 : decode cX6_seekFitting 37 = .ok (.getfield 37, 3) := by decide +kernel
theorem dX6_seekFitting_40 : decode cX6_seekFitting 40 = .ok (.iload 4, 2) := by decide +kernel
theorem dX6_seekFitting_42 : decode cX6_seekFitting 42 = .ok (.iand, 1) := by decide +kernel
theorem dX6_seekFitting_43 : decode cX6_seekFitting 43 = .ok (.putfield 37, 3) := by decide +kernel
theorem dX6_seekFitting_46 : decode cX6_seekFitting 46 = .ok (.return_, 1) := by decide +kernel
theorem dX6_seekFitting_47 : decode cX6_seekFitting 47 = .ok (.aload_n 0, 1) := by decide +kernel
theorem dX6_seekFitting_48 : decode cX6_seekFitting 48 = .ok (.getfield 11, 3) := by decide +kernel
theorem dX6_seekFitting_51 : decode cX6_seekFitting 51 = .ok (.iload_n 2, 1) := by decide +kernel
theorem dX6_seekFitting_52 : decode cX6_seekFitting 52 = .ok (.aaload, 1) := by decide +kernel
theorem dX6_seekFitting_53 : decode cX6_seekFitting 53 = .ok (.astore 6, 2) := by decide +kernel
theorem dX6_seekFitting_55 : decode cX6_seekFitting 55 = .ok (.aload 6, 2) := by decide +kernel
theorem dX6_seekFitting_57 : decode cX6_seekFitting 57 = .ok (.aload_n 1, 1) := by decide +kernel
theorem dX6_seekFitting_58 : decode cX6_seekFitting 58 = .ok (.invokevirtual 53, 3) := by decide +kernel
theorem dX6_seekFitting_61 : decode cX6_seekFitting 61 = .ok (.iconst 0, 1) := by decide +kernel
theorem dX6_seekFitting_62 : decode cX6_seekFitting 62 = .ok (.istore 7, 2) := by decide +kernel
theorem dX6_seekFitting_64 : decode cX6_seekFitting 64 = .ok (.iload 7, 2) := by decide +kernel
theorem dX6_seekFitting_66 : decode cX6_seekFitting 66 = .ok (.iload_n 3, 1) := by decide +kernel
theorem dX6_seekFitting_67 : decode cX6_seekFitting 67 = .ok (.if_icmp .gt 64, 3) := by decide +kernel
theorem dX6_seekFitting_70 : decode cX6_seekFitting 70 = .ok (.iload 7, 2) := by decide +kernel
theorem dX6_seekFitting_72 : decode cX6_seekFitting 72 = .ok (.iload_n 3, 1) := by decide +kernel
theorem dX6_seekFitting_73 : decode cX6_seekFitting 73 = .ok (.iconst (-1), 1) := by decide +kernel
theorem dX6_seekFitting_74 : decode cX6_seekFitting 74 = .ok (.ixor, 1) := by decide +kernel
theorem dX6_seekFitting_75 : decode cX6_seekFitting 75 = .ok (.iand, 1) := by decide +kernel
theorem dX6_seekFitting_76 : decode cX6_seekFitting 76 = .ok (.ifCond .ne 49, 3) := by decide +kernel
theorem dX6_seekFitting_79 : decode cX6_seekFitting 79 = .ok (.aload 6, 2) := by decide +kernel
theorem dX6_seekFitting_81 : decode cX6_seekFitting 81 = .ok (.aload_n 1, 1) := by decide +kernel
theorem dX6_seekFitting_82 : decode cX6_seekFitting 82 = .ok (.iload 7, 2) := by decide +kernel
theorem dX6_seekFitting_84 : decode cX6_seekFitting 84 = .ok (.invokevirtual 78, 3) := by decide +kernel
theorem dX6_seekFitting_87 : decode cX6_seekFitting 87 = .ok (.aload 5, 2) := by decide +kernel
theorem dX6_seekFitting_89 : decode cX6_seekFitting 89 = .ok (.getfield 91, 3) := by decide +kernel
theorem dX6_seekFitting_92 : decode cX6_seekFitting 92 = .ok (.iload_n 2, 1) := by decide +kernel
theorem dX6_seekFitting_93 : decode cX6_seekFitting 93 = .ok (.iaload, 1) := by decide +kernel
theorem dX6_seekFitting_94 : decode cX6_seekFitting 94 = .ok (.if_icmp .ne 31, 3) := by decide +kernel
theorem dX6_seekFitting_97 : decode cX6_seekFitting 97 = .ok (.aload_n 0, 1) := by decide +kernel
theorem dX6_seekFitting_98 : decode cX6_seekFitting 98 = .ok (.aload_n 1, 1) := by decide +kernel
theorem dX6_seekFitting_99 : decode cX6_seekFitting 99 = .ok (.iload_n 2, 1) := by decide +kernel
theorem dX6_seekFitting_100 : decode cX6_seekFitting 100 = .ok (.iload 7, 2) := by decide +kernel
theorem dX6_seekFitting_102 : decode cX6_seekFitting 102 = .ok (.invokevirtual 69, 3) := by decide +kernel
theorem dX6_seekFitting_105 : decode cX6_seekFitting 105 = .ok (.aload_n 0, 1) := by decide +kernel
theorem dX6_seekFitting_106 : decode cX6_seekFitting 106 = .ok (.aload_n 1, 1) := by decide +kernel
theorem dX6_seekFitting_107 : decode cX6_seekFitting 107 = .ok (.iload_n 2, 1) := by decide +kernel
theorem dX6_seekFitting_108 : decode cX6_seekFitting 108 = .ok (.iconst 1, 1) := by decide +kernel
theorem dX6_seekFitting_109 : decode cX6_seekFitting 109 = .ok (.iadd, 1) := by decide +kernel
theorem dX6_seekFitting_110 : decode cX6_seekFitting 110 = .ok (.iload_n 3, 1) := by decide +kernel
theorem dX6_seekFitting_111 : decode cX6_seekFitting 111 = .ok (.iload 4, 2) := by decide +kernel
theorem dX6_seekFitting_113 : decode cX6_seekFitting 113 = .ok (.iload_n 3, 1) := by decide +kernel
theorem dX6_seekFitting_114 : decode cX6_seekFitting 114 = .ok (.iload 7, 2) := by decide +kernel
theorem dX6_seekFitting_116 : decode cX6_seekFitting 116 = .ok (.iconst (-1), 1) := by decide +kernel
theorem dX6_seekFitting_117 : decode cX6_seekFitting 117 = .ok (.ixor, 1) := by decide +kernel
theorem dX6_seekFitting_118 : decode cX6_seekFitting 118 = .ok (.iand, 1) := by decide +kernel
theorem dX6_seekFitting_119 : decode cX6_seekFitting 119 = .ok (.ior, 1) := by decide +kernel
theorem dX6_seekFitting_120 : decode cX6_seekFitting 120 = .ok (.aload 5, 2) := by decide +kernel
theorem dX6_seekFitting_122 : decode cX6_seekFitting 122 = .ok (.invokevirtual 87, 3) := by decide +kernel
theorem dX6_seekFitting_125 : decode cX6_seekFitting 125 = .ok (.iinc 7 1, 3) := by decide +kernel
theorem dX6_seekFitting_128 : decode cX6_seekFitting 128 = .ok (.goto (-64), 3) := by decide +kernel
theorem dX6_seekFitting_131 : decode cX6_seekFitting 131 = .ok (.return_, 1) := by decide +kernel
theorem dX6_waysTo_0 : decode cX6_waysTo 0 = .ok (.aload_n 0, 1) := by decide +kernel
theorem dX6_waysTo_1 : decode cX6_waysTo 1 = .ok (.aload_n 2, 1) := by decide +kernel
theorem dX6_waysTo_2 : decode cX6_waysTo 2 = .ok (.iload 4, 2) := by decide +kernel
theorem dX6_waysTo_4 : decode cX6_waysTo 4 = .ok (.invokevirtual 41, 3) := by decide +kernel
theorem dX6_waysTo_7 : decode cX6_waysTo 7 = .ok (.aload_n 0, 1) := by decide +kernel
theorem dX6_waysTo_8 : decode cX6_waysTo 8 = .ok (.iload 5, 2) := by decide +kernel
theorem dX6_waysTo_10 : decode cX6_waysTo 10 = .ok (.putfield 31, 3) := by decide +kernel
theorem dX6_waysTo_13 : decode cX6_waysTo 13 = .ok (.aload_n 0, 1) := by decide +kernel
theorem dX6_waysTo_14 : decode cX6_waysTo 14 = .ok (.aload_n 1, 1) := by decide +kernel
theorem dX6_waysTo_15 : decode cX6_waysTo 15 = .ok (.iconst 0, 1) := by decide +kernel
theorem dX6_waysTo_16 : decode cX6_waysTo 16 = .ok (.iload_n 3, 1) := by decide +kernel
theorem dX6_waysTo_17 : decode cX6_waysTo 17 = .ok (.aload_n 2, 1) := by decide +kernel
theorem dX6_waysTo_18 : decode cX6_waysTo 18 = .ok (.getfield 60, 3) := by decide +kernel
theorem dX6_waysTo_21 : decode cX6_waysTo 21 = .ok (.iconst 0, 1) := by decide +kernel
theorem dX6_waysTo_22 : decode cX6_waysTo 22 = .ok (.iaload, 1) := by decide +kernel
theorem dX6_waysTo_23 : decode cX6_waysTo 23 = .ok (.invokevirtual 94, 3) := by decide +kernel
theorem dX6_waysTo_26 : decode cX6_waysTo 26 = .ok (.ireturn, 1) := by decide +kernel
theorem dX6_waysFrom_0 : decode cX6_waysFrom 0 = .ok (.iload_n 2, 1) := by decide +kernel
theorem dX6_waysFrom_1 : decode cX6_waysFrom 1 = .ok (.aload_n 0, 1) := by decide +kernel
theorem dX6_waysFrom_2 : decode cX6_waysFrom 2 = .ok (.getfield 24, 3) := by decide +kernel
theorem dX6_waysFrom_5 : decode cX6_waysFrom 5 = .ok (.if_icmp .ge 8, 3) := by decide +kernel
theorem dX6_waysFrom_8 : decode cX6_waysFrom 8 = .ok (.iload_n 2, 1) := by decide +kernel
theorem dX6_waysFrom_9 : decode cX6_waysFrom 9 = .ok (.iconst 3, 1) := by decide +kernel
theorem dX6_waysFrom_10 : decode cX6_waysFrom 10 = .ok (.if_icmp .lt 18, 3) := by decide +kernel
theorem dX6_waysFrom_13 : decode cX6_waysFrom 13 = .ok (.iload 4, 2) := by decide +kernel
theorem dX6_waysFrom_15 : decode cX6_waysFrom 15 = .ok (.aload_n 0, 1) := by decide +kernel
theorem dX6_waysFrom_16 : decode cX6_waysFrom 16 = .ok (.getfield 31, 3) := by decide +kernel
theorem dX6_waysFrom_19 : decode cX6_waysFrom 19 = .ok (.if_icmp .lt 7, 3) := by decide +kernel
theorem dX6_waysFrom_22 : decode cX6_waysFrom 22 = .ok (.iconst 1, 1) := by decide +kernel
theorem dX6_waysFrom_23 : decode cX6_waysFrom 23 = .ok (.goto 4, 3) := by decide +kernel
theorem dX6_waysFrom_26 : decode cX6_waysFrom 26 = .ok (.iconst 0, 1) := by decide +kernel
theorem dX6_waysFrom_27 : decode cX6_waysFrom 27 = .ok (.ireturn, 1) := by decide +kernel
theorem dX6_waysFrom_28 : decode cX6_waysFrom 28 = .ok (.aload_n 0, 1) := by decide +kernel
theorem dX6_waysFrom_29 : decode cX6_waysFrom 29 = .ok (.getfield 11, 3) := by decide +kernel
theorem dX6_waysFrom_32 : decode cX6_waysFrom 32 = .ok (.iload_n 2, 1) := by decide +kernel
theorem dX6_waysFrom_33 : decode cX6_waysFrom 33 = .ok (.aaload, 1) := by decide +kernel
theorem dX6_waysFrom_34 : decode cX6_waysFrom 34 = .ok (.astore 5, 2) := by decide +kernel
theorem dX6_waysFrom_36 : decode cX6_waysFrom 36 = .ok (.aload 5, 2) := by decide +kernel
theorem dX6_waysFrom_38 : decode cX6_waysFrom 38 = .ok (.aload_n 1, 1) := by decide +kernel
theorem dX6_waysFrom_39 : decode cX6_waysFrom 39 = .ok (.invokevirtual 53, 3) := by decide +kernel
theorem dX6_waysFrom_42 : decode cX6_waysFrom 42 = .ok (.iconst 0, 1) := by decide +kernel
theorem dX6_waysFrom_43 : decode cX6_waysFrom 43 = .ok (.istore 6, 2) := by decide +kernel
theorem dX6_waysFrom_45 : decode cX6_waysFrom 45 = .ok (.iconst 0, 1) := by decide +kernel
theorem dX6_waysFrom_46 : decode cX6_waysFrom 46 = .ok (.istore 7, 2) := by decide +kernel
theorem dX6_waysFrom_48 : decode cX6_waysFrom 48 = .ok (.iload 7, 2) := by decide +kernel
theorem dX6_waysFrom_50 : decode cX6_waysFrom 50 = .ok (.iload_n 3, 1) := by decide +kernel
theorem dX6_waysFrom_51 : decode cX6_waysFrom 51 = .ok (.if_icmp .gt 48, 3) := by decide +kernel
theorem dX6_waysFrom_54 : decode cX6_waysFrom 54 = .ok (.iload 7, 2) := by decide +kernel
theorem dX6_waysFrom_56 : decode cX6_waysFrom 56 = .ok (.iload_n 3, 1) := by decide +kernel
theorem dX6_waysFrom_57 : decode cX6_waysFrom 57 = .ok (.iconst (-1), 1) := by decide +kernel
theorem dX6_waysFrom_58 : decode cX6_waysFrom 58 = .ok (.ixor, 1) := by decide +kernel
theorem dX6_waysFrom_59 : decode cX6_waysFrom 59 = .ok (.iand, 1) := by decide +kernel
theorem dX6_waysFrom_60 : decode cX6_waysFrom 60 = .ok (.ifCond .ne 33, 3) := by decide +kernel
theorem dX6_waysFrom_63 : decode cX6_waysFrom 63 = .ok (.aload_n 0, 1) := by decide +kernel
theorem dX6_waysFrom_64 : decode cX6_waysFrom 64 = .ok (.aload_n 1, 1) := by decide +kernel
theorem dX6_waysFrom_65 : decode cX6_waysFrom 65 = .ok (.iload_n 2, 1) := by decide +kernel
theorem dX6_waysFrom_66 : decode cX6_waysFrom 66 = .ok (.iload 7, 2) := by decide +kernel
theorem dX6_waysFrom_68 : decode cX6_waysFrom 68 = .ok (.invokevirtual 69, 3) := by decide +kernel
theorem dX6_waysFrom_71 : decode cX6_waysFrom 71 = .ok (.iload 6, 2) := by decide +kernel
theorem dX6_waysFrom_73 : decode cX6_waysFrom 73 = .ok (.aload_n 0, 1) := by decide +kernel
theorem dX6_waysFrom_74 : decode cX6_waysFrom 74 = .ok (.aload_n 1, 1) := by decide +kernel
theorem dX6_waysFrom_75 : decode cX6_waysFrom 75 = .ok (.iload_n 2, 1) := by decide +kernel
theorem dX6_waysFrom_76 : decode cX6_waysFrom 76 = .ok (.iconst 1, 1) := by decide +kernel
theorem dX6_waysFrom_77 : decode cX6_waysFrom 77 = .ok (.iadd, 1) := by decide +kernel
theorem dX6_waysFrom_78 : decode cX6_waysFrom 78 = .ok (.iload_n 3, 1) := by decide +kernel
theorem dX6_waysFrom_79 : decode cX6_waysFrom 79 = .ok (.aload 5, 2) := by decide +kernel
theorem dX6_waysFrom_81 : decode cX6_waysFrom 81 = .ok (.aload_n 1, 1) := by decide +kernel
theorem dX6_waysFrom_82 : decode cX6_waysFrom 82 = .ok (.iload 7, 2) := by decide +kernel
theorem dX6_waysFrom_84 : decode cX6_waysFrom 84 = .ok (.invokevirtual 78, 3) := by decide +kernel
theorem dX6_waysFrom_87 : decode cX6_waysFrom 87 = .ok (.invokevirtual 94, 3) := by decide +kernel
theorem dX6_waysFrom_90 : decode cX6_waysFrom 90 = .ok (.iadd, 1) := by decide +kernel
theorem dX6_waysFrom_91 : decode cX6_waysFrom 91 = .ok (.istore 6, 2) := by decide +kernel
theorem dX6_waysFrom_93 : decode cX6_waysFrom 93 = .ok (.iinc 7 1, 3) := by decide +kernel
theorem dX6_waysFrom_96 : decode cX6_waysFrom 96 = .ok (.goto (-48), 3) := by decide +kernel
theorem dX6_waysFrom_99 : decode cX6_waysFrom 99 = .ok (.iload 6, 2) := by decide +kernel
theorem dX6_waysFrom_101 : decode cX6_waysFrom 101 = .ok (.ireturn, 1) := by decide +kernel
theorem dX6_begin_0 : decode cX6_begin 0 = .ok (.aload_n 0, 1) := by decide +kernel
theorem dX6_begin_1 : decode cX6_begin 1 = .ok (.iload_n 2, 1) := by decide +kernel
theorem dX6_begin_2 : decode cX6_begin 2 = .ok (.putfield 24, 3) := by decide +kernel
theorem dX6_begin_5 : decode cX6_begin 5 = .ok (.aload_n 0, 1) := by decide +kernel
theorem dX6_begin_6 : decode cX6_begin 6 = .ok (.getfield 11, 3) := by decide +kernel
theorem dX6_begin_9 : decode cX6_begin 9 = .ok (.iconst 0, 1) := by decide +kernel
theorem dX6_begin_10 : decode cX6_begin 10 = .ok (.aaload, 1) := by decide +kernel
theorem dX6_begin_11 : decode cX6_begin 11 = .ok (.aload_n 1, 1) := by decide +kernel
theorem dX6_begin_12 : decode cX6_begin 12 = .ok (.invokevirtual 98, 3) := by decide +kernel
theorem dX6_begin_15 : decode cX6_begin 15 = .ok (.return_, 1) := by decide +kernel
theorem dX6_step_0 : decode cX6_step 0 = .ok (.aload_n 0, 1) := by decide +kernel
theorem dX6_step_1 : decode cX6_step 1 = .ok (.getfield 17, 3) := by decide +kernel
theorem dX6_step_4 : decode cX6_step 4 = .ok (.iload_n 2, 1) := by decide +kernel
theorem dX6_step_5 : decode cX6_step 5 = .ok (.iload_n 3, 1) := by decide +kernel
theorem dX6_step_6 : decode cX6_step 6 = .ok (.iastore, 1) := by decide +kernel
theorem dX6_step_7 : decode cX6_step 7 = .ok (.iload_n 2, 1) := by decide +kernel
theorem dX6_step_8 : decode cX6_step 8 = .ok (.iconst 1, 1) := by decide +kernel
theorem dX6_step_9 : decode cX6_step 9 = .ok (.iadd, 1) := by decide +kernel
theorem dX6_step_10 : decode cX6_step 10 = .ok (.aload_n 0, 1) := by decide +kernel
theorem dX6_step_11 : decode cX6_step 11 = .ok (.getfield 24, 3) := by decide +kernel
theorem dX6_step_14 : decode cX6_step 14 = .ok (.if_icmp .ge 41, 3) := by decide +kernel
theorem dX6_step_17 : decode cX6_step 17 = .ok (.iload_n 2, 1) := by decide +kernel
theorem dX6_step_18 : decode cX6_step 18 = .ok (.iconst 1, 1) := by decide +kernel
theorem dX6_step_19 : decode cX6_step 19 = .ok (.iadd, 1) := by decide +kernel
theorem dX6_step_20 : decode cX6_step 20 = .ok (.iconst 3, 1) := by decide +kernel
theorem dX6_step_21 : decode cX6_step 21 = .ok (.if_icmp .ge 34, 3) := by decide +kernel
theorem dX6_step_24 : decode cX6_step 24 = .ok (.aload_n 0, 1) := by decide +kernel
theorem dX6_step_25 : decode cX6_step 25 = .ok (.getfield 11, 3) := by decide +kernel
theorem dX6_step_28 : decode cX6_step 28 = .ok (.iload_n 2, 1) := by decide +kernel
theorem dX6_step_29 : decode cX6_step 29 = .ok (.iconst 1, 1) := by decide +kernel
theorem dX6_step_30 : decode cX6_step 30 = .ok (.iadd, 1) := by decide +kernel
theorem dX6_step_31 : decode cX6_step 31 = .ok (.aaload, 1) := by decide +kernel
theorem dX6_step_32 : decode cX6_step 32 = .ok (.aload_n 0, 1) := by decide +kernel
theorem dX6_step_33 : decode cX6_step 33 = .ok (.getfield 11, 3) := by decide +kernel
theorem dX6_step_36 : decode cX6_step 36 = .ok (.iload_n 2, 1) := by decide +kernel
theorem dX6_step_37 : decode cX6_step 37 = .ok (.aaload, 1) := by decide +kernel
theorem dX6_step_38 : decode cX6_step 38 = .ok (.invokevirtual 98, 3) := by decide +kernel
theorem dX6_step_41 : decode cX6_step 41 = .ok (.aload_n 0, 1) := by decide +kernel
theorem dX6_step_42 : decode cX6_step 42 = .ok (.getfield 11, 3) := by decide +kernel
theorem dX6_step_45 : decode cX6_step 45 = .ok (.iload_n 2, 1) := by decide +kernel
theorem dX6_step_46 : decode cX6_step 46 = .ok (.iconst 1, 1) := by decide +kernel
theorem dX6_step_47 : decode cX6_step 47 = .ok (.iadd, 1) := by decide +kernel
theorem dX6_step_48 : decode cX6_step 48 = .ok (.aaload, 1) := by decide +kernel
theorem dX6_step_49 : decode cX6_step 49 = .ok (.aload_n 1, 1) := by decide +kernel
theorem dX6_step_50 : decode cX6_step 50 = .ok (.iload_n 3, 1) := by decide +kernel
theorem dX6_step_51 : decode cX6_step 51 = .ok (.invokevirtual 102, 3) := by decide +kernel
theorem dX6_step_54 : decode cX6_step 54 = .ok (.pop, 1) := by decide +kernel
theorem dX6_step_55 : decode cX6_step 55 = .ok (.return_, 1) := by decide +kernel
theorem dX6_setFirst_0 : decode cX6_setFirst 0 = .ok (.aload_n 0, 1) := by decide +kernel
theorem dX6_setFirst_1 : decode cX6_setFirst 1 = .ok (.iload_n 1, 1) := by decide +kernel
theorem dX6_setFirst_2 : decode cX6_setFirst 2 = .ok (.putfield 28, 3) := by decide +kernel
theorem dX6_setFirst_5 : decode cX6_setFirst 5 = .ok (.aload_n 0, 1) := by decide +kernel
theorem dX6_setFirst_6 : decode cX6_setFirst 6 = .ok (.getfield 17, 3) := by decide +kernel
theorem dX6_setFirst_9 : decode cX6_setFirst 9 = .ok (.iconst 0, 1) := by decide +kernel
theorem dX6_setFirst_10 : decode cX6_setFirst 10 = .ok (.aload_n 0, 1) := by decide +kernel
theorem dX6_setFirst_11 : decode cX6_setFirst 11 = .ok (.getfield 21, 3) := by decide +kernel
theorem dX6_setFirst_14 : decode cX6_setFirst 14 = .ok (.iconst 0, 1) := by decide +kernel
theorem dX6_setFirst_15 : decode cX6_setFirst 15 = .ok (.iconst 3, 1) := by decide +kernel
theorem dX6_setFirst_16 : decode cX6_setFirst 16 = .ok (.invokestatic 105, 3) := by decide +kernel
theorem dX6_setFirst_19 : decode cX6_setFirst 19 = .ok (.return_, 1) := by decide +kernel
theorem dX7_init_0 : decode cX7_init 0 = .ok (.aload_n 0, 1) := by decide +kernel
theorem dX7_init_1 : decode cX7_init 1 = .ok (.invokespecial 3, 3) := by decide +kernel
theorem dX7_init_4 : decode cX7_init 4 = .ok (.aload_n 0, 1) := by decide +kernel
theorem dX7_init_5 : decode cX7_init 5 = .ok (.bipush 60, 2) := by decide +kernel
theorem dX7_init_7 : decode cX7_init 7 = .ok (.newarray .byte, 2) := by decide +kernel
theorem dX7_init_9 : decode cX7_init 9 = .ok (.putfield 9, 3) := by decide +kernel
theorem dX7_init_12 : decode cX7_init 12 = .ok (.aload_n 0, 1) := by decide +kernel
theorem dX7_init_13 : decode cX7_init 13 = .ok (.iconst (-1), 1) := by decide +kernel
theorem dX7_init_14 : decode cX7_init 14 = .ok (.putfield 15, 3) := by decide +kernel
theorem dX7_init_17 : decode cX7_init 17 = .ok (.return_, 1) := by decide +kernel
theorem dX7_isThere_0 : decode cX7_isThere 0 = .ok (.aload_n 0, 1) := by decide +kernel
theorem dX7_isThere_1 : decode cX7_isThere 1 = .ok (.getfield 15, 3) := by decide +kernel
theorem dX7_isThere_4 : decode cX7_isThere 4 = .ok (.ifCond .lt 7, 3) := by decide +kernel
theorem dX7_isThere_7 : decode cX7_isThere 7 = .ok (.iconst 1, 1) := by decide +kernel
theorem dX7_isThere_8 : decode cX7_isThere 8 = .ok (.goto 4, 3) := by decide +kernel
theorem dX7_isThere_11 : decode cX7_isThere 11 = .ok (.iconst 0, 1) := by decide +kernel
theorem dX7_isThere_12 : decode cX7_isThere 12 = .ok (.ireturn, 1) := by decide +kernel
theorem dX7_begin_0 : decode cX7_begin 0 = .ok (.aload_n 0, 1) := by decide +kernel
theorem dX7_begin_1 : decode cX7_begin 1 = .ok (.getfield 9, 3) := by decide +kernel
theorem dX7_begin_4 : decode cX7_begin 4 = .ok (.bipush 32, 2) := by decide +kernel
theorem dX7_begin_6 : decode cX7_begin 6 = .ok (.invokestatic 19, 3) := by decide +kernel
theorem dX7_begin_9 : decode cX7_begin 9 = .ok (.aload_n 0, 1) := by decide +kernel
theorem dX7_begin_10 : decode cX7_begin 10 = .ok (.iload_n 1, 1) := by decide +kernel
theorem dX7_begin_11 : decode cX7_begin 11 = .ok (.putfield 15, 3) := by decide +kernel
theorem dX7_begin_14 : decode cX7_begin 14 = .ok (.return_, 1) := by decide +kernel
theorem dX7_digestFrom_0 : decode cX7_digestFrom 0 = .ok (.ldc2_w 25, 3) := by decide +kernel
theorem dX7_digestFrom_3 : decode cX7_digestFrom 3 = .ok (.lload_n 1, 1) := by decide +kernel
theorem dX7_digestFrom_4 : decode cX7_digestFrom 4 = .ok (.lmul, 1) := by decide +kernel
theorem dX7_digestFrom_5 : decode cX7_digestFrom 5 = .ok (.aload_n 0, 1) := by decide +kernel
theorem dX7_digestFrom_6 : decode cX7_digestFrom 6 = .ok (.getfield 15, 3) := by decide +kernel
theorem dX7_digestFrom_9 : decode cX7_digestFrom 9 = .ok (.i2l, 1) := by decide +kernel
theorem dX7_digestFrom_10 : decode cX7_digestFrom 10 = .ok (.ladd, 1) := by decide +kernel
theorem dX7_digestFrom_11 : decode cX7_digestFrom 11 = .ok (.lstore_n 3, 1) := by decide +kernel
theorem dX7_digestFrom_12 : decode cX7_digestFrom 12 = .ok (.iconst 0, 1) := by decide +kernel
theorem dX7_digestFrom_13 : decode cX7_digestFrom 13 = .ok (.istore 5, 2) := by decide +kernel
theorem dX7_digestFrom_15 : decode cX7_digestFrom 15 = .ok (.iload 5, 2) := by decide +kernel
theorem dX7_digestFrom_17 : decode cX7_digestFrom 17 = .ok (.aload_n 0, 1) := by decide +kernel
theorem dX7_digestFrom_18 : decode cX7_digestFrom 18 = .ok (.getfield 15, 3) := by decide +kernel
theorem dX7_digestFrom_21 : decode cX7_digestFrom 21 = .ok (.if_icmp .ge 24, 3) := by decide +kernel
theorem dX7_digestFrom_24 : decode cX7_digestFrom 24 = .ok (.ldc2_w 25, 3) := by decide +kernel
theorem dX7_digestFrom_27 : decode cX7_digestFrom 27 = .ok (.lload_n 3, 1) := by decide +kernel
theorem dX7_digestFrom_28 : decode cX7_digestFrom 28 = .ok (.lmul, 1) := by decide +kernel
theorem dX7_digestFrom_29 : decode cX7_digestFrom 29 = .ok (.aload_n 0, 1) := by decide +kernel
theorem dX7_digestFrom_30 : decode cX7_digestFrom 30 = .ok (.getfield 9, 3) := by decide +kernel
theorem dX7_digestFrom_33 : decode cX7_digestFrom 33 = .ok (.iload 5, 2) := by decide +kernel
theorem dX7_digestFrom_35 : decode cX7_digestFrom 35 = .ok (.baload, 1) := by decide +kernel
theorem dX7_digestFrom_36 : decode cX7_digestFrom 36 = .ok (.i2l, 1) := by decide +kernel
theorem dX7_digestFrom_37 : decode cX7_digestFrom 37 = .ok (.ladd, 1) := by decide +kernel
theorem dX7_digestFrom_38 : decode cX7_digestFrom 38 = .ok (.lstore_n 3, 1) := by decide +kernel
theorem dX7_digestFrom_39 : decode cX7_digestFrom 39 = .ok (.iinc 5 1, 3) := by decide +kernel
theorem dX7_digestFrom_42 : decode cX7_digestFrom 42 = .ok (.goto (-27), 3) := by decide +kernel
theorem dX7_digestFrom_45 : decode cX7_digestFrom 45 = .ok (.lload_n 3, 1) := by decide +kernel
theorem dX7_digestFrom_46 : decode cX7_digestFrom 46 = .ok (.lreturn, 1) := by decide +kernel
theorem dX8_init_0 : decode cX8_init 0 = .ok (.aload_n 0, 1) := by decide +kernel
theorem dX8_init_1 : decode cX8_init 1 = .ok (.invokespecial 3, 3) := by decide +kernel
theorem dX8_init_4 : decode cX8_init 4 = .ok (.aload_n 0, 1) := by decide +kernel
theorem dX8_init_5 : decode cX8_init 5 = .ok (.iconst 5, 1) := by decide +kernel
theorem dX8_init_6 : decode cX8_init 6 = .ok (.newarray .int, 2) := by decide +kernel
theorem dX8_init_8 : decode cX8_init 8 = .ok (.putfield 9, 3) := by decide +kernel
theorem dX8_init_11 : decode cX8_init 11 = .ok (.aload_n 0, 1) := by decide +kernel
theorem dX8_init_12 : decode cX8_init 12 = .ok (.bipush 6, 2) := by decide +kernel
theorem dX8_init_14 : decode cX8_init 14 = .ok (.newarray .int, 2) := by decide +kernel
theorem dX8_init_16 : decode cX8_init 16 = .ok (.putfield 15, 3) := by decide +kernel
theorem dX8_init_19 : decode cX8_init 19 = .ok (.aload_n 0, 1) := by decide +kernel
theorem dX8_init_20 : decode cX8_init 20 = .ok (.iconst 4, 1) := by decide +kernel
theorem dX8_init_21 : decode cX8_init 21 = .ok (.newarray .int, 2) := by decide +kernel
theorem dX8_init_23 : decode cX8_init 23 = .ok (.putfield 18, 3) := by decide +kernel
theorem dX8_init_26 : decode cX8_init 26 = .ok (.aload_n 0, 1) := by decide +kernel
theorem dX8_init_27 : decode cX8_init 27 = .ok (.iconst 4, 1) := by decide +kernel
theorem dX8_init_28 : decode cX8_init 28 = .ok (.newarray .int, 2) := by decide +kernel
theorem dX8_init_30 : decode cX8_init 30 = .ok (.putfield 21, 3) := by decide +kernel
theorem dX8_init_33 : decode cX8_init 33 = .ok (.aload_n 0, 1) := by decide +kernel
theorem dX8_init_34 : decode cX8_init 34 = .ok (.iconst 4, 1) := by decide +kernel
theorem dX8_init_35 : decode cX8_init 35 = .ok (.newarray .int, 2) := by decide +kernel
theorem dX8_init_37 : decode cX8_init 37 = .ok (.putfield 24, 3) := by decide +kernel
theorem dX8_init_40 : decode cX8_init 40 = .ok (.aload_n 0, 1) := by decide +kernel
theorem dX8_init_41 : decode cX8_init 41 = .ok (.iconst 4, 1) := by decide +kernel
theorem dX8_init_42 : decode cX8_init 42 = .ok (.newarray .int, 2) := by decide +kernel
theorem dX8_init_44 : decode cX8_init 44 = .ok (.putfield 27, 3) := by decide +kernel
theorem dX8_init_47 : decode cX8_init 47 = .ok (.aload_n 0, 1) := by decide +kernel
theorem dX8_init_48 : decode cX8_init 48 = .ok (.iconst 0, 1) := by decide +kernel
theorem dX8_init_49 : decode cX8_init 49 = .ok (.putfield 30, 3) := by decide +kernel
theorem dX8_init_52 : decode cX8_init 52 = .ok (.aload_n 0, 1) := by decide +kernel
theorem dX8_init_53 : decode cX8_init 53 = .ok (.iconst 0, 1) := by decide +kernel
theorem dX8_init_54 : decode cX8_init 54 = .ok (.putfield 34, 3) := by decide +kernel
theorem dX8_init_57 : decode cX8_init 57 = .ok (.return_, 1) := by decide +kernel
theorem dX8_begin_0 : decode cX8_begin 0 = .ok (.aload_n 0, 1) := by decide +kernel
theorem dX8_begin_1 : decode cX8_begin 1 = .ok (.aload_n 1, 1) := by decide +kernel
theorem dX8_begin_2 : decode cX8_begin 2 = .ok (.getfield 37, 3) := by decide +kernel
theorem dX8_begin_5 : decode cX8_begin 5 = .ok (.putfield 30, 3) := by decide +kernel
theorem dX8_begin_8 : decode cX8_begin 8 = .ok (.aload_n 0, 1) := by decide +kernel
theorem dX8_begin_9 : decode cX8_begin 9 = .ok (.aload_n 1, 1) := by decide +kernel
theorem dX8_begin_10 : decode cX8_begin 10 = .ok (.getfield 40, 3) := by decide +kernel
theorem dX8_begin_13 : decode cX8_begin 13 = .ok (.putfield 34, 3) := by decide +kernel
theorem dX8_begin_16 : decode cX8_begin 16 = .ok (.aload_n 0, 1) := by decide +kernel
theorem dX8_begin_17 : decode cX8_begin 17 = .ok (.getfield 15, 3) := by decide +kernel
theorem dX8_begin_20 : decode cX8_begin 20 = .ok (.iconst 0, 1) := by decide +kernel
theorem dX8_begin_21 : decode cX8_begin 21 = .ok (.invokestatic 41, 3) := by decide +kernel
theorem dX8_begin_24 : decode cX8_begin 24 = .ok (.iconst 0, 1) := by decide +kernel
theorem dX8_begin_25 : decode cX8_begin 25 = .ok (.istore_n 2, 1) := by decide +kernel
theorem dX8_begin_26 : decode cX8_begin 26 = .ok (.iload_n 2, 1) := by decide +kernel
theorem dX8_begin_27 : decode cX8_begin 27 = .ok (.aload_n 0, 1) := by decide +kernel
theorem dX8_begin_28 : decode cX8_begin 28 = .ok (.getfield 30, 3) := by decide +kernel
theorem dX8_begin_31 : decode cX8_begin 31 = .ok (.if_icmp .ge 65, 3) := by decide +kernel
theorem dX8_begin_34 : decode cX8_begin 34 = .ok (.aload_n 1, 1) := by decide +kernel
theorem dX8_begin_35 : decode cX8_begin 35 = .ok (.getfield 47, 3) := by decide +kernel
theorem dX8_begin_38 : decode cX8_begin 38 = .ok (.iload_n 2, 1) := by decide +kernel
theorem dX8_begin_39 : decode cX8_begin 39 = .ok (.iconst 3, 1) := by decide +kernel
theorem dX8_begin_40 : decode cX8_begin 40 = .ok (.imul, 1) := by decide +kernel
theorem dX8_begin_41 : decode cX8_begin 41 = .ok (.iaload, 1) := by decide +kernel
theorem dX8_begin_42 : decode cX8_begin 42 = .ok (.istore_n 3, 1) := by decide +kernel
theorem dX8_begin_43 : decode cX8_begin 43 = .ok (.aload_n 0, 1) := by decide +kernel
theorem dX8_begin_44 : decode cX8_begin 44 = .ok (.getfield 9, 3) := by decide +kernel
theorem dX8_begin_47 : decode cX8_begin 47 = .ok (.iload_n 2, 1) := by decide +kernel
theorem dX8_begin_48 : decode cX8_begin 48 = .ok (.iload_n 3, 1) := by decide +kernel
theorem dX8_begin_49 : decode cX8_begin 49 = .ok (.iastore, 1) := by decide +kernel
theorem dX8_begin_50 : decode cX8_begin 50 = .ok (.aload_n 0, 1) := by decide +kernel
theorem dX8_begin_51 : decode cX8_begin 51 = .ok (.getfield 15, 3) := by decide +kernel
theorem dX8_begin_54 : decode cX8_begin 54 = .ok (.iconst 0, 1) := by decide +kernel
theorem dX8_begin_55 : decode cX8_begin 55 = .ok (.dup2, 1) := by decide +kernel
theorem dX8_begin_56 : decode cX8_begin 56 = .ok (.iaload, 1) := by decide +kernel
theorem dX8_begin_57 : decode cX8_begin 57 = .ok (.iconst 1, 1) := by decide +kernel
theorem dX8_begin_58 : decode cX8_begin 58 = .ok (.iload_n 2, 1) := by decide +kernel
theorem dX8_begin_59 : decode cX8_begin 59 = .ok (.ishl, 1) := by decide +kernel
theorem dX8_begin_60 : decode cX8_begin 60 = .ok (.ior, 1) := by decide +kernel
theorem dX8_begin_61 : decode cX8_begin 61 = .ok (.iastore, 1) := by decide +kernel
theorem dX8_begin_62 : decode cX8_begin 62 = .ok (.aload_n 0, 1) := by decide +kernel
theorem dX8_begin_63 : decode cX8_begin 63 = .ok (.getfield 15, 3) := by decide +kernel
theorem dX8_begin_66 : decode cX8_begin 66 = .ok (.getstatic 50, 3) := by decide +kernel
theorem dX8_begin_69 : decode cX8_begin 69 = .ok (.iload_n 3, 1) := by decide +kernel
theorem dX8_begin_70 : decode cX8_begin 70 = .ok (.iaload, 1) := by decide +kernel
theorem dX8_begin_71 : decode cX8_begin 71 = .ok (.dup2, 1) := by decide +kernel
theorem dX8_begin_72 : decode cX8_begin 72 = .ok (.iaload, 1) := by decide +kernel
theorem dX8_begin_73 : decode cX8_begin 73 = .ok (.iconst 1, 1) := by decide +kernel
theorem dX8_begin_74 : decode cX8_begin 74 = .ok (.iload_n 2, 1) := by decide +kernel
theorem dX8_begin_75 : decode cX8_begin 75 = .ok (.ishl, 1) := by decide +kernel
theorem dX8_begin_76 : decode cX8_begin 76 = .ok (.ior, 1) := by decide +kernel
theorem dX8_begin_77 : decode cX8_begin 77 = .ok (.iastore, 1) := by decide +kernel
theorem dX8_begin_78 : decode cX8_begin 78 = .ok (.aload_n 0, 1) := by decide +kernel
theorem dX8_begin_79 : decode cX8_begin 79 = .ok (.getfield 15, 3) := by decide +kernel
theorem dX8_begin_82 : decode cX8_begin 82 = .ok (.iload_n 3, 1) := by decide +kernel
theorem dX8_begin_83 : decode cX8_begin 83 = .ok (.dup2, 1) := by decide +kernel
theorem dX8_begin_84 : decode cX8_begin 84 = .ok (.iaload, 1) := by decide +kernel
theorem dX8_begin_85 : decode cX8_begin 85 = .ok (.iconst 1, 1) := by decide +kernel
theorem dX8_begin_86 : decode cX8_begin 86 = .ok (.iload_n 2, 1) := by decide +kernel
theorem dX8_begin_87 : decode cX8_begin 87 = .ok (.ishl, 1) := by decide +kernel
theorem dX8_begin_88 : decode cX8_begin 88 = .ok (.ior, 1) := by decide +kernel
theorem dX8_begin_89 : decode cX8_begin 89 = .ok (.iastore, 1) := by decide +kernel
theorem dX8_begin_90 : decode cX8_begin 90 = .ok (.iinc 2 1, 3) := by decide +kernel
theorem dX8_begin_93 : decode cX8_begin 93 = .ok (.goto (-67), 3) := by decide +kernel
theorem dX8_begin_96 : decode cX8_begin 96 = .ok (.iconst 0, 1) := by decide +kernel
theorem dX8_begin_97 : decode cX8_begin 97 = .ok (.istore_n 2, 1) := by decide +kernel
theorem dX8_begin_98 : decode cX8_begin 98 = .ok (.iload_n 2, 1) := by decide +kernel
theorem dX8_begin_99 : decode cX8_begin 99 = .ok (.aload_n 0, 1) := by decide +kernel
theorem dX8_begin_100 : decode cX8_begin 100 = .ok (.getfield 34, 3) := by decide +kernel
theorem dX8_begin_103 : decode cX8_begin 103 = .ok (.if_icmp .ge 67, 3) := by decide +kernel
theorem dX8_begin_106 : decode cX8_begin 106 = .ok (.iload_n 2, 1) := by decide +kernel
theorem dX8_begin_107 : decode cX8_begin 107 = .ok (.iconst 4, 1) := by decide +kernel
theorem dX8_begin_108 : decode cX8_begin 108 = .ok (.imul, 1) := by decide +kernel
theorem dX8_begin_109 : decode cX8_begin 109 = .ok (.istore_n 3, 1) := by decide +kernel
theorem dX8_begin_110 : decode cX8_begin 110 = .ok (.aload_n 0, 1) := by decide +kernel
theorem dX8_begin_111 : decode cX8_begin 111 = .ok (.getfield 18, 3) := by decide +kernel
theorem dX8_begin_114 : decode cX8_begin 114 = .ok (.iload_n 2, 1) := by decide +kernel
theorem dX8_begin_115 : decode cX8_begin 115 = .ok (.aload_n 1, 1) := by decide +kernel
theorem dX8_begin_116 : decode cX8_begin 116 = .ok (.getfield 53, 3) := by decide +kernel
theorem dX8_begin_119 : decode cX8_begin 119 = .ok (.iload_n 3, 1) := by decide +kernel
theorem dX8_begin_120 : decode cX8_begin 120 = .ok (.iaload, 1) := by decide +kernel
theorem dX8_begin_121 : decode cX8_begin 121 = .ok (.iastore, 1) := by decide +kernel
theorem dX8_begin_122 : decode cX8_begin 122 = .ok (.aload_n 0, 1) := by decide +kernel
theorem dX8_begin_123 : decode cX8_begin 123 = .ok (.getfield 21, 3) := by decide +kernel
theorem dX8_begin_126 : decode cX8_begin 126 = .ok (.iload_n 2, 1) := by decide +kernel
theorem dX8_begin_127 : decode cX8_begin 127 = .ok (.aload_n 1, 1) := by decide +kernel
theorem dX8_begin_128 : decode cX8_begin 128 = .ok (.getfield 53, 3) := by decide +kernel
theorem dX8_begin_131 : decode cX8_begin 131 = .ok (.iload_n 3, 1) := by decide +kernel
theorem dX8_begin_132 : decode cX8_begin 132 = .ok (.iconst 1, 1) := by decide +kernel
theorem dX8_begin_133 : decode cX8_begin 133 = .ok (.iadd, 1) := by decide +kernel
theorem dX8_begin_134 : decode cX8_begin 134 = .ok (.iaload, 1) := by decide +kernel
theorem dX8_begin_135 : decode cX8_begin 135 = .ok (.iastore, 1) := by decide +kernel
theorem dX8_begin_136 : decode cX8_begin 136 = .ok (.aload_n 0, 1) := by decide +kernel
theorem dX8_begin_137 : decode cX8_begin 137 = .ok (.getfield 24, 3) := by decide +kernel
theorem dX8_begin_140 : decode cX8_begin 140 = .ok (.iload_n 2, 1) := by decide +kernel
theorem dX8_begin_141 : decode cX8_begin 141 = .ok (.aload_n 1, 1) := by decide +kernel
theorem dX8_begin_142 : decode cX8_begin 142 = .ok (.getfield 53, 3) := by decide +kernel
theorem dX8_begin_145 : decode cX8_begin 145 = .ok (.iload_n 3, 1) := by decide +kernel
theorem dX8_begin_146 : decode cX8_begin 146 = .ok (.iconst 2, 1) := by decide +kernel
theorem dX8_begin_147 : decode cX8_begin 147 = .ok (.iadd, 1) := by decide +kernel
theorem dX8_begin_148 : decode cX8_begin 148 = .ok (.iaload, 1) := by decide +kernel
theorem dX8_begin_149 : decode cX8_begin 149 = .ok (.iastore, 1) := by decide +kernel
theorem dX8_begin_150 : decode cX8_begin 150 = .ok (.aload_n 0, 1) := by decide +kernel
theorem dX8_begin_151 : decode cX8_begin 151 = .ok (.getfield 27, 3) := by decide +kernel
theorem dX8_begin_154 : decode cX8_begin 154 = .ok (.iload_n 2, 1) := by decide +kernel
theorem dX8_begin_155 : decode cX8_begin 155 = .ok (.aload_n 1, 1) := by decide +kernel
theorem dX8_begin_156 : decode cX8_begin 156 = .ok (.getfield 53, 3) := by decide +kernel
theorem dX8_begin_159 : decode cX8_begin 159 = .ok (.iload_n 3, 1) := by decide +kernel
theorem dX8_begin_160 : decode cX8_begin 160 = .ok (.iconst 3, 1) := by decide +kernel
theorem dX8_begin_161 : decode cX8_begin 161 = .ok (.iadd, 1) := by decide +kernel
theorem dX8_begin_162 : decode cX8_begin 162 = .ok (.iaload, 1) := by decide +kernel
theorem dX8_begin_163 : decode cX8_begin 163 = .ok (.iastore, 1) := by decide +kernel
theorem dX8_begin_164 : decode cX8_begin 164 = .ok (.iinc 2 1, 3) := by decide +kernel
theorem dX8_begin_167 : decode cX8_begin 167 = .ok (.goto (-69), 3) := by decide +kernel
theorem dX8_begin_170 : decode cX8_begin 170 = .ok (.return_, 1) := by decide +kernel
theorem dX8_hasCape_0 : decode cX8_hasCape 0 = .ok (.iload_n 1, 1) := by decide +kernel
theorem dX8_hasCape_1 : decode cX8_hasCape 1 = .ok (.ifCond .lt 15, 3) := by decide +kernel
theorem dX8_hasCape_4 : decode cX8_hasCape 4 = .ok (.iload_n 1, 1) := by decide +kernel
theorem dX8_hasCape_5 : decode cX8_hasCape 5 = .ok (.aload_n 0, 1) := by decide +kernel
theorem dX8_hasCape_6 : decode cX8_hasCape 6 = .ok (.getfield 30, 3) := by decide +kernel
theorem dX8_hasCape_9 : decode cX8_hasCape 9 = .ok (.if_icmp .ge 7, 3) := by decide +kernel
theorem dX8_hasCape_12 : decode cX8_hasCape 12 = .ok (.iconst 1, 1) := by decide +kernel
theorem dX8_hasCape_13 : decode cX8_hasCape 13 = .ok (.goto 4, 3) := by decide +kernel
theorem dX8_hasCape_16 : decode cX8_hasCape 16 = .ok (.iconst 0, 1) := by decide +kernel
theorem dX8_hasCape_17 : decode cX8_hasCape 17 = .ok (.ireturn, 1) := by decide +kernel
theorem dX8_hasValley_0 : decode cX8_hasValley 0 = .ok (.iload_n 1, 1) := by decide +kernel
theorem dX8_hasValley_1 : decode cX8_hasValley 1 = .ok (.ifCond .lt 15, 3) := by decide +kernel
theorem dX8_hasValley_4 : decode cX8_hasValley 4 = .ok (.iload_n 1, 1) := by decide +kernel
theorem dX8_hasValley_5 : decode cX8_hasValley 5 = .ok (.aload_n 0, 1) := by decide +kernel
theorem dX8_hasValley_6 : decode cX8_hasValley 6 = .ok (.getfield 34, 3) := by decide +kernel
theorem dX8_hasValley_9 : decode cX8_hasValley 9 = .ok (.if_icmp .ge 7, 3) := by decide +kernel
theorem dX8_hasValley_12 : decode cX8_hasValley 12 = .ok (.iconst 1, 1) := by decide +kernel
theorem dX8_hasValley_13 : decode cX8_hasValley 13 = .ok (.goto 4, 3) := by decide +kernel
theorem dX8_hasValley_16 : decode cX8_hasValley 16 = .ok (.iconst 0, 1) := by decide +kernel
theorem dX8_hasValley_17 : decode cX8_hasValley 17 = .ok (.ireturn, 1) := by decide +kernel
theorem dX8_allCapes_0 : decode cX8_allCapes 0 = .ok (.iconst 1, 1) := by decide +kernel
theorem dX8_allCapes_1 : decode cX8_allCapes 1 = .ok (.aload_n 0, 1) := by decide +kernel
theorem dX8_allCapes_2 : decode cX8_allCapes 2 = .ok (.getfield 30, 3) := by decide +kernel
theorem dX8_allCapes_5 : decode cX8_allCapes 5 = .ok (.ishl, 1) := by decide +kernel
theorem dX8_allCapes_6 : decode cX8_allCapes 6 = .ok (.iconst 1, 1) := by decide +kernel
theorem dX8_allCapes_7 : decode cX8_allCapes 7 = .ok (.isub, 1) := by decide +kernel
theorem dX8_allCapes_8 : decode cX8_allCapes 8 = .ok (.ireturn, 1) := by decide +kernel
theorem dX8_hasSet_0 : decode cX8_hasSet 0 = .ok (.iload_n 1, 1) := by decide +kernel
theorem dX8_hasSet_1 : decode cX8_hasSet 1 = .ok (.ifCond .lt 15, 3) := by decide +kernel
theorem dX8_hasSet_4 : decode cX8_hasSet 4 = .ok (.iload_n 1, 1) := by decide +kernel
theorem dX8_hasSet_5 : decode cX8_hasSet 5 = .ok (.aload_n 0, 1) := by decide +kernel
theorem dX8_hasSet_6 : decode cX8_hasSet 6 = .ok (.invokevirtual 56, 3) := by decide +kernel
theorem dX8_hasSet_9 : decode cX8_hasSet 9 = .ok (.if_icmp .gt 7, 3) := by decide +kernel
theorem dX8_hasSet_12 : decode cX8_hasSet 12 = .ok (.iconst 1, 1) := by decide +kernel
theorem dX8_hasSet_13 : decode cX8_hasSet 13 = .ok (.goto 4, 3) := by decide +kernel
theorem dX8_hasSet_16 : decode cX8_hasSet 16 = .ok (.iconst 0, 1) := by decide +kernel
theorem dX8_hasSet_17 : decode cX8_hasSet 17 = .ok (.ireturn, 1) := by decide +kernel
theorem dX8_pullOf_0 : decode cX8_pullOf 0 = .ok (.iload_n 1, 1) := by decide +kernel
theorem dX8_pullOf_1 : decode cX8_pullOf 1 = .ok (.invokestatic 60, 3) := by decide +kernel
theorem dX8_pullOf_4 : decode cX8_pullOf 4 = .ok (.iload_n 1, 1) := by decide +kernel
theorem dX8_pullOf_5 : decode cX8_pullOf 5 = .ok (.aload_n 0, 1) := by decide +kernel
theorem dX8_pullOf_6 : decode cX8_pullOf 6 = .ok (.getfield 15, 3) := by decide +kernel
theorem dX8_pullOf_9 : decode cX8_pullOf 9 = .ok (.iconst 2, 1) := by decide +kernel
theorem dX8_pullOf_10 : decode cX8_pullOf 10 = .ok (.iaload, 1) := by decide +kernel
theorem dX8_pullOf_11 : decode cX8_pullOf 11 = .ok (.iand, 1) := by decide +kernel
theorem dX8_pullOf_12 : decode cX8_pullOf 12 = .ok (.invokestatic 60, 3) := by decide +kernel
theorem dX8_pullOf_15 : decode cX8_pullOf 15 = .ok (.iadd, 1) := by decide +kernel
theorem dX8_pullOf_16 : decode cX8_pullOf 16 = .ok (.ireturn, 1) := by decide +kernel
theorem dX8_gainOf_0 : decode cX8_gainOf 0 = .ok (.iload_n 2, 1) := by decide +kernel
theorem dX8_gainOf_1 : decode cX8_gainOf 1 = .ok (.bipush 6, 2) := by decide +kernel
theorem dX8_gainOf_3 : decode cX8_gainOf 3 = .ok (.idiv, 1) := by decide +kernel
theorem dX8_gainOf_4 : decode cX8_gainOf 4 = .ok (.istore_n 3, 1) := by decide +kernel
theorem dX8_gainOf_5 : decode cX8_gainOf 5 = .ok (.iload_n 2, 1) := by decide +kernel
theorem dX8_gainOf_6 : decode cX8_gainOf 6 = .ok (.bipush 48, 2) := by decide +kernel
theorem dX8_gainOf_8 : decode cX8_gainOf 8 = .ok (.if_icmp .ge 27, 3) := by decide +kernel
theorem dX8_gainOf_11 : decode cX8_gainOf 11 = .ok (.iload_n 3, 1) := by decide +kernel
theorem dX8_gainOf_12 : decode cX8_gainOf 12 = .ok (.aload_n 0, 1) := by decide +kernel
theorem dX8_gainOf_13 : decode cX8_gainOf 13 = .ok (.getfield 21, 3) := by decide +kernel
theorem dX8_gainOf_16 : decode cX8_gainOf 16 = .ok (.iload_n 1, 1) := by decide +kernel
theorem dX8_gainOf_17 : decode cX8_gainOf 17 = .ok (.iaload, 1) := by decide +kernel
theorem dX8_gainOf_18 : decode cX8_gainOf 18 = .ok (.if_icmp .lt 17, 3) := by decide +kernel
theorem dX8_gainOf_21 : decode cX8_gainOf 21 = .ok (.iload_n 3, 1) := by decide +kernel
theorem dX8_gainOf_22 : decode cX8_gainOf 22 = .ok (.aload_n 0, 1) := by decide +kernel
theorem dX8_gainOf_23 : decode cX8_gainOf 23 = .ok (.getfield 24, 3) := by decide +kernel
theorem dX8_gainOf_26 : decode cX8_gainOf 26 = .ok (.iload_n 1, 1) := by decide +kernel
theorem dX8_gainOf_27 : decode cX8_gainOf 27 = .ok (.iaload, 1) := by decide +kernel
theorem dX8_gainOf_28 : decode cX8_gainOf 28 = .ok (.if_icmp .gt 7, 3) := by decide +kernel
theorem dX8_gainOf_31 : decode cX8_gainOf 31 = .ok (.iconst 1, 1) := by decide +kernel
theorem dX8_gainOf_32 : decode cX8_gainOf 32 = .ok (.goto 4, 3) := by decide +kernel
theorem dX8_gainOf_35 : decode cX8_gainOf 35 = .ok (.iconst 0, 1) := by decide +kernel
theorem dX8_gainOf_36 : decode cX8_gainOf 36 = .ok (.istore 4, 2) := by decide +kernel
theorem dX8_gainOf_38 : decode cX8_gainOf 38 = .ok (.iload 4, 2) := by decide +kernel
theorem dX8_gainOf_40 : decode cX8_gainOf 40 = .ok (.aload_n 0, 1) := by decide +kernel
theorem dX8_gainOf_41 : decode cX8_gainOf 41 = .ok (.getfield 18, 3) := by decide +kernel
theorem dX8_gainOf_44 : decode cX8_gainOf 44 = .ok (.iload_n 1, 1) := by decide +kernel
theorem dX8_gainOf_45 : decode cX8_gainOf 45 = .ok (.iaload, 1) := by decide +kernel
theorem dX8_gainOf_46 : decode cX8_gainOf 46 = .ok (.iconst 1, 1) := by decide +kernel
theorem dX8_gainOf_47 : decode cX8_gainOf 47 = .ok (.if_icmp .ne 7, 3) := by decide +kernel
theorem dX8_gainOf_50 : decode cX8_gainOf 50 = .ok (.iconst 1, 1) := by decide +kernel
theorem dX8_gainOf_51 : decode cX8_gainOf 51 = .ok (.goto 4, 3) := by decide +kernel
theorem dX8_gainOf_54 : decode cX8_gainOf 54 = .ok (.iconst 0, 1) := by decide +kernel
theorem dX8_gainOf_55 : decode cX8_gainOf 55 = .ok (.if_icmp .ne 12, 3) := by decide +kernel
theorem dX8_gainOf_58 : decode cX8_gainOf 58 = .ok (.aload_n 0, 1) := by decide +kernel
theorem dX8_gainOf_59 : decode cX8_gainOf 59 = .ok (.getfield 27, 3) := by decide +kernel
theorem dX8_gainOf_62 : decode cX8_gainOf 62 = .ok (.iload_n 1, 1) := by decide +kernel
theorem dX8_gainOf_63 : decode cX8_gainOf 63 = .ok (.iaload, 1) := by decide +kernel
theorem dX8_gainOf_64 : decode cX8_gainOf 64 = .ok (.goto 4, 3) := by decide +kernel
theorem dX8_gainOf_67 : decode cX8_gainOf 67 = .ok (.iconst 0, 1) := by decide +kernel
theorem dX8_gainOf_68 : decode cX8_gainOf 68 = .ok (.ireturn, 1) := by decide +kernel
theorem dX8_gainOfAll_0 : decode cX8_gainOfAll 0 = .ok (.iconst 0, 1) := by decide +kernel
theorem dX8_gainOfAll_1 : decode cX8_gainOfAll 1 = .ok (.istore_n 2, 1) := by decide +kernel
theorem dX8_gainOfAll_2 : decode cX8_gainOfAll 2 = .ok (.iconst 0, 1) := by decide +kernel
theorem dX8_gainOfAll_3 : decode cX8_gainOfAll 3 = .ok (.istore_n 3, 1) := by decide +kernel
theorem dX8_gainOfAll_4 : decode cX8_gainOfAll 4 = .ok (.iload_n 3, 1) := by decide +kernel
theorem dX8_gainOfAll_5 : decode cX8_gainOfAll 5 = .ok (.aload_n 0, 1) := by decide +kernel
theorem dX8_gainOfAll_6 : decode cX8_gainOfAll 6 = .ok (.getfield 34, 3) := by decide +kernel
theorem dX8_gainOfAll_9 : decode cX8_gainOfAll 9 = .ok (.if_icmp .ge 18, 3) := by decide +kernel
theorem dX8_gainOfAll_12 : decode cX8_gainOfAll 12 = .ok (.iload_n 2, 1) := by decide +kernel
theorem dX8_gainOfAll_13 : decode cX8_gainOfAll 13 = .ok (.aload_n 0, 1) := by decide +kernel
theorem dX8_gainOfAll_14 : decode cX8_gainOfAll 14 = .ok (.iload_n 3, 1) := by decide +kernel
theorem dX8_gainOfAll_15 : decode cX8_gainOfAll 15 = .ok (.iload_n 1, 1) := by decide +kernel
theorem dX8_gainOfAll_16 : decode cX8_gainOfAll 16 = .ok (.invokevirtual 66, 3) := by decide +kernel
theorem dX8_gainOfAll_19 : decode cX8_gainOfAll 19 = .ok (.iadd, 1) := by decide +kernel
theorem dX8_gainOfAll_20 : decode cX8_gainOfAll 20 = .ok (.istore_n 2, 1) := by decide +kernel
theorem dX8_gainOfAll_21 : decode cX8_gainOfAll 21 = .ok (.iinc 3 1, 3) := by decide +kernel
theorem dX8_gainOfAll_24 : decode cX8_gainOfAll 24 = .ok (.goto (-20), 3) := by decide +kernel
theorem dX8_gainOfAll_27 : decode cX8_gainOfAll 27 = .ok (.iload_n 2, 1) := by decide +kernel
theorem dX8_gainOfAll_28 : decode cX8_gainOfAll 28 = .ok (.ireturn, 1) := by decide +kernel
theorem dX9_init_0 : decode cX9_init 0 = .ok (.aload_n 0, 1) := by decide +kernel
theorem dX9_init_1 : decode cX9_init 1 = .ok (.invokespecial 1, 3) := by decide +kernel
theorem dX9_init_4 : decode cX9_init 4 = .ok (.aload_n 0, 1) := by decide +kernel
theorem dX9_init_5 : decode cX9_init 5 = .ok (.bipush 6, 2) := by decide +kernel
theorem dX9_init_7 : decode cX9_init 7 = .ok (.anewarray 9, 3) := by decide +kernel
theorem dX9_init_10 : decode cX9_init 10 = .ok (.putfield 11, 3) := by decide +kernel
theorem dX9_init_13 : decode cX9_init 13 = .ok (.aload_n 0, 1) := by decide +kernel
theorem dX9_init_14 : decode cX9_init 14 = .ok (.iconst 4, 1) := by decide +kernel
theorem dX9_init_15 : decode cX9_init 15 = .ok (.anewarray 15, 3) := by decide +kernel
theorem dX9_init_18 : decode cX9_init 18 = .ok (.putfield 17, 3) := by decide +kernel
theorem dX9_init_21 : decode cX9_init 21 = .ok (.aload_n 0, 1) := by decide +kernel
theorem dX9_init_22 : decode cX9_init 22 = .ok (.new 21, 3) := by decide +kernel
theorem dX9_init_25 : decode cX9_init 25 = .ok (.dup, 1) := by decide +kernel
theorem dX9_init_26 : decode cX9_init 26 = .ok (.invokespecial 23, 3) := by decide +kernel
theorem dX9_init_29 : decode cX9_init 29 = .ok (.putfield 24, 3) := by decide +kernel
theorem dX9_init_32 : decode cX9_init 32 = .ok (.aload_n 0, 1) := by decide +kernel
theorem dX9_init_33 : decode cX9_init 33 = .ok (.new 28, 3) := by decide +kernel
theorem dX9_init_36 : decode cX9_init 36 = .ok (.dup, 1) := by decide +kernel
theorem dX9_init_37 : decode cX9_init 37 = .ok (.invokespecial 30, 3) := by decide +kernel
theorem dX9_init_40 : decode cX9_init 40 = .ok (.putfield 31, 3) := by decide +kernel
theorem dX9_init_43 : decode cX9_init 43 = .ok (.aload_n 0, 1) := by decide +kernel
theorem dX9_init_44 : decode cX9_init 44 = .ok (.new 35, 3) := by decide +kernel
theorem dX9_init_47 : decode cX9_init 47 = .ok (.dup, 1) := by decide +kernel
theorem dX9_init_48 : decode cX9_init 48 = .ok (.invokespecial 37, 3) := by decide +kernel
theorem dX9_init_51 : decode cX9_init 51 = .ok (.putfield 38, 3) := by decide +kernel
theorem dX9_init_54 : decode cX9_init 54 = .ok (.aload_n 0, 1) := by decide +kernel
theorem dX9_init_55 : decode cX9_init 55 = .ok (.new 42, 3) := by decide +kernel
theorem dX9_init_58 : decode cX9_init 58 = .ok (.dup, 1) := by decide +kernel
theorem dX9_init_59 : decode cX9_init 59 = .ok (.invokespecial 44, 3) := by decide +kernel
theorem dX9_init_62 : decode cX9_init 62 = .ok (.putfield 45, 3) := by decide +kernel
theorem dX9_init_65 : decode cX9_init 65 = .ok (.aload_n 0, 1) := by decide +kernel
theorem dX9_init_66 : decode cX9_init 66 = .ok (.iconst 3, 1) := by decide +kernel
theorem dX9_init_67 : decode cX9_init 67 = .ok (.anewarray 42, 3) := by decide +kernel
theorem dX9_init_70 : decode cX9_init 70 = .ok (.putfield 49, 3) := by decide +kernel
theorem dX9_init_73 : decode cX9_init 73 = .ok (.aload_n 0, 1) := by decide +kernel
theorem dX9_init_74 : decode cX9_init 74 = .ok (.new 53, 3) := by decide +kernel
theorem dX9_init_77 : decode cX9_init 77 = .ok (.dup, 1) := by decide +kernel
theorem dX9_init_78 : decode cX9_init 78 = .ok (.invokespecial 55, 3) := by decide +kernel
theorem dX9_init_81 : decode cX9_init 81 = .ok (.putfield 56, 3) := by decide +kernel
theorem dX9_init_84 : decode cX9_init 84 = .ok (.aload_n 0, 1) := by decide +kernel
theorem dX9_init_85 : decode cX9_init 85 = .ok (.new 60, 3) := by decide +kernel
theorem dX9_init_88 : decode cX9_init 88 = .ok (.dup, 1) := by decide +kernel
theorem dX9_init_89 : decode cX9_init 89 = .ok (.invokespecial 62, 3) := by decide +kernel
theorem dX9_init_92 : decode cX9_init 92 = .ok (.putfield 63, 3) := by decide +kernel
theorem dX9_init_95 : decode cX9_init 95 = .ok (.aload_n 0, 1) := by decide +kernel
theorem dX9_init_96 : decode cX9_init 96 = .ok (.new 67, 3) := by decide +kernel
theorem dX9_init_99 : decode cX9_init 99 = .ok (.dup, 1) := by decide +kernel
theorem dX9_init_100 : decode cX9_init 100 = .ok (.invokespecial 69, 3) := by decide +kernel
theorem dX9_init_103 : decode cX9_init 103 = .ok (.putfield 70, 3) := by decide +kernel
theorem dX9_init_106 : decode cX9_init 106 = .ok (.aload_n 0, 1) := by decide +kernel
theorem dX9_init_107 : decode cX9_init 107 = .ok (.iconst 5, 1) := by decide +kernel
theorem dX9_init_108 : decode cX9_init 108 = .ok (.newarray .int, 2) := by decide +kernel
theorem dX9_init_110 : decode cX9_init 110 = .ok (.putfield 74, 3) := by decide +kernel
theorem dX9_init_113 : decode cX9_init 113 = .ok (.aload_n 0, 1) := by decide +kernel
theorem dX9_init_114 : decode cX9_init 114 = .ok (.bipush 6, 2) := by decide +kernel
theorem dX9_init_116 : decode cX9_init 116 = .ok (.newarray .int, 2) := by decide +kernel
theorem dX9_init_118 : decode cX9_init 118 = .ok (.putfield 78, 3) := by decide +kernel
theorem dX9_init_121 : decode cX9_init 121 = .ok (.aload_n 0, 1) := by decide +kernel
theorem dX9_init_122 : decode cX9_init 122 = .ok (.iconst 0, 1) := by decide +kernel
theorem dX9_init_123 : decode cX9_init 123 = .ok (.putfield 81, 3) := by decide +kernel
theorem dX9_init_126 : decode cX9_init 126 = .ok (.aload_n 0, 1) := by decide +kernel
theorem dX9_init_127 : decode cX9_init 127 = .ok (.iconst 0, 1) := by decide +kernel
theorem dX9_init_128 : decode cX9_init 128 = .ok (.putfield 85, 3) := by decide +kernel
theorem dX9_init_131 : decode cX9_init 131 = .ok (.aload_n 0, 1) := by decide +kernel
theorem dX9_init_132 : decode cX9_init 132 = .ok (.lconst 0, 1) := by decide +kernel
theorem dX9_init_133 : decode cX9_init 133 = .ok (.putfield 88, 3) := by decide +kernel
theorem dX9_init_136 : decode cX9_init 136 = .ok (.aload_n 0, 1) := by decide +kernel
theorem dX9_init_137 : decode cX9_init 137 = .ok (.lconst 1, 1) := by decide +kernel
theorem dX9_init_138 : decode cX9_init 138 = .ok (.putfield 92, 3) := by decide +kernel
theorem dX9_init_141 : decode cX9_init 141 = .ok (.iconst 0, 1) := by decide +kernel
theorem dX9_init_142 : decode cX9_init 142 = .ok (.istore_n 1, 1) := by decide +kernel
theorem dX9_init_143 : decode cX9_init 143 = .ok (.iload_n 1, 1) := by decide +kernel
theorem dX9_init_144 : decode cX9_init 144 = .ok (.bipush 6, 2) := by decide +kernel
theorem dX9_init_146 : decode cX9_init 146 = .ok (.if_icmp .ge 22, 3) := by decide +kernel
theorem dX9_init_149 : decode cX9_init 149 = .ok (.aload_n 0, 1) := by decide +kernel
theorem dX9_init_150 : decode cX9_init 150 = .ok (.getfield 11, 3) := by decide +kernel
theorem dX9_init_153 : decode cX9_init 153 = .ok (.iload_n 1, 1) := by decide +kernel
theorem dX9_init_154 : decode cX9_init 154 = .ok (.new 9, 3) := by decide +kernel
theorem dX9_init_157 : decode cX9_init 157 = .ok (.dup, 1) := by decide +kernel
theorem dX9_init_158 : decode cX9_init 158 = .ok (.invokespecial 95, 3) := by decide +kernel
theorem dX9_init_161 : decode cX9_init 161 = .ok (.aastore, 1) := by decide +kernel
theorem dX9_init_162 : decode cX9_init 162 = .ok (.iinc 1 1, 3) := by decide +kernel
theorem dX9_init_165 : decode cX9_init 165 = .ok (.goto (-22), 3) := by decide +kernel
theorem dX9_init_168 : decode cX9_init 168 = .ok (.iconst 0, 1) := by decide +kernel
theorem dX9_init_169 : decode cX9_init 169 = .ok (.istore_n 1, 1) := by decide +kernel
theorem dX9_init_170 : decode cX9_init 170 = .ok (.iload_n 1, 1) := by decide +kernel
theorem dX9_init_171 : decode cX9_init 171 = .ok (.iconst 4, 1) := by decide +kernel
theorem dX9_init_172 : decode cX9_init 172 = .ok (.if_icmp .ge 22, 3) := by decide +kernel
theorem dX9_init_175 : decode cX9_init 175 = .ok (.aload_n 0, 1) := by decide +kernel
theorem dX9_init_176 : decode cX9_init 176 = .ok (.getfield 17, 3) := by decide +kernel
theorem dX9_init_179 : decode cX9_init 179 = .ok (.iload_n 1, 1) := by decide +kernel
theorem dX9_init_180 : decode cX9_init 180 = .ok (.new 15, 3) := by decide +kernel
theorem dX9_init_183 : decode cX9_init 183 = .ok (.dup, 1) := by decide +kernel
theorem dX9_init_184 : decode cX9_init 184 = .ok (.invokespecial 96, 3) := by decide +kernel
