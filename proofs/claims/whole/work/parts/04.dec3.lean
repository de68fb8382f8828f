theorem dX10_planRefused_39 : decode cX10_planRefused 39 = .ok (.iaload, 1) := by decide +kernel
theorem dX10_planRefused_40 : decode cX10_planRefused 40 = .ok (.bipush 12, 2) := by decide +kernel
theorem dX10_planRefused_42 : decode cX10_planRefused 42 = .ok (.if_icmp .le 9, 3) := by decide +kernel
theorem dX10_planRefused_45 : decode cX10_planRefused 45 = .ok (.aload_n 0, 1) := by decide +kernel
theorem dX10_planRefused_46 : decode cX10_planRefused 46 = .ok (.iconst 5, 1) := by decide +kernel
theorem dX10_planRefused_47 : decode cX10_planRefused 47 = .ok (.invokevirtual 114, 3) := by decide +kernel
theorem dX10_planRefused_50 : decode cX10_planRefused 50 = .ok (.ireturn, 1) := by decide +kernel
theorem dX10_planRefused_51 : decode cX10_planRefused 51 = .ok (.iconst 1, 1) := by decide +kernel
theorem dX10_planRefused_52 : decode cX10_planRefused 52 = .ok (.istore_n 2, 1) := by decide +kernel
theorem dX10_planRefused_53 : decode cX10_planRefused 53 = .ok (.iconst 0, 1) := by decide +kernel
theorem dX10_planRefused_54 : decode cX10_planRefused 54 = .ok (.istore_n 3, 1) := by decide +kernel
theorem dX10_planRefused_55 : decode cX10_planRefused 55 = .ok (.iload_n 3, 1) := by decide +kernel
theorem dX10_planRefused_56 : decode cX10_planRefused 56 = .ok (.aload_n 0, 1) := by decide +kernel
theorem dX10_planRefused_57 : decode cX10_planRefused 57 = .ok (.getfield 38, 3) := by decide +kernel
theorem dX10_planRefused_60 : decode cX10_planRefused 60 = .ok (.iload_n 1, 1) := by decide +kernel
theorem dX10_planRefused_61 : decode cX10_planRefused 61 = .ok (.iaload, 1) := by decide +kernel
theorem dX10_planRefused_62 : decode cX10_planRefused 62 = .ok (.if_icmp .ge 37, 3) := by decide +kernel
theorem dX10_planRefused_65 : decode cX10_planRefused 65 = .ok (.iload_n 2, 1) := by decide +kernel
theorem dX10_planRefused_66 : decode cX10_planRefused 66 = .ok (.ifCond .eq 25, 3) := by decide +kernel
theorem dX10_planRefused_69 : decode cX10_planRefused 69 = .ok (.aload_n 0, 1) := by decide +kernel
theorem dX10_planRefused_70 : decode cX10_planRefused 70 = .ok (.aload_n 0, 1) := by decide +kernel
theorem dX10_planRefused_71 : decode cX10_planRefused 71 = .ok (.getfield 41, 3) := by decide +kernel
theorem dX10_planRefused_74 : decode cX10_planRefused 74 = .ok (.bipush 40, 2) := by decide +kernel
theorem dX10_planRefused_76 : decode cX10_planRefused 76 = .ok (.iload_n 1, 1) := by decide +kernel
theorem dX10_planRefused_77 : decode cX10_planRefused 77 = .ok (.imul, 1) := by decide +kernel
theorem dX10_planRefused_78 : decode cX10_planRefused 78 = .ok (.iload_n 3, 1) := by decide +kernel
theorem dX10_planRefused_79 : decode cX10_planRefused 79 = .ok (.iadd, 1) := by decide +kernel
theorem dX10_planRefused_80 : decode cX10_planRefused 80 = .ok (.iaload, 1) := by decide +kernel
theorem dX10_planRefused_81 : decode cX10_planRefused 81 = .ok (.invokevirtual 218, 3) := by decide +kernel
theorem dX10_planRefused_84 : decode cX10_planRefused 84 = .ok (.ifCond .eq 7, 3) := by decide +kernel
theorem dX10_planRefused_87 : decode cX10_planRefused 87 = .ok (.iconst 1, 1) := by decide +kernel
theorem dX10_planRefused_88 : decode cX10_planRefused 88 = .ok (.goto 4, 3) := by decide +kernel
theorem dX10_planRefused_91 : decode cX10_planRefused 91 = .ok (.iconst 0, 1) := by decide +kernel
theorem dX10_planRefused_92 : decode cX10_planRefused 92 = .ok (.istore_n 2, 1) := by decide +kernel
theorem dX10_planRefused_93 : decode cX10_planRefused 93 = .ok (.iinc 3 1, 3) := by decide +kernel
theorem dX10_planRefused_96 : decode cX10_planRefused 96 = .ok (.goto (-41), 3) := by decide +kernel
theorem dX10_planRefused_99 : decode cX10_planRefused 99 = .ok (.iload_n 2, 1) := by decide +kernel
theorem dX10_planRefused_100 : decode cX10_planRefused 100 = .ok (.ifCond .eq 7, 3) := by decide +kernel
theorem dX10_planRefused_103 : decode cX10_planRefused 103 = .ok (.iconst 0, 1) := by decide +kernel
theorem dX10_planRefused_104 : decode cX10_planRefused 104 = .ok (.goto 8, 3) := by decide +kernel
theorem dX10_planRefused_107 : decode cX10_planRefused 107 = .ok (.aload_n 0, 1) := by decide +kernel
theorem dX10_planRefused_108 : decode cX10_planRefused 108 = .ok (.iconst 3, 1) := by decide +kernel
theorem dX10_planRefused_109 : decode cX10_planRefused 109 = .ok (.invokevirtual 114, 3) := by decide +kernel
theorem dX10_planRefused_112 : decode cX10_planRefused 112 = .ok (.ireturn, 1) := by decide +kernel
theorem dX10_run_0 : decode cX10_run 0 = .ok (.aload_n 0, 1) := by decide +kernel
theorem dX10_run_1 : decode cX10_run 1 = .ok (.iload_n 1, 1) := by decide +kernel
theorem dX10_run_2 : decode cX10_run 2 = .ok (.invokevirtual 229, 3) := by decide +kernel
theorem dX10_run_5 : decode cX10_run 5 = .ok (.istore_n 2, 1) := by decide +kernel
theorem dX10_run_6 : decode cX10_run 6 = .ok (.iload_n 2, 1) := by decide +kernel
theorem dX10_run_7 : decode cX10_run 7 = .ok (.ifCond .eq 5, 3) := by decide +kernel
theorem dX10_run_10 : decode cX10_run 10 = .ok (.iload_n 2, 1) := by decide +kernel
theorem dX10_run_11 : decode cX10_run 11 = .ok (.ireturn, 1) := by decide +kernel
theorem dX10_run_12 : decode cX10_run 12 = .ok (.aload_n 0, 1) := by decide +kernel
theorem dX10_run_13 : decode cX10_run 13 = .ok (.invokevirtual 232, 3) := by decide +kernel
theorem dX10_run_16 : decode cX10_run 16 = .ok (.aload_n 0, 1) := by decide +kernel
theorem dX10_run_17 : decode cX10_run 17 = .ok (.invokevirtual 235, 3) := by decide +kernel
theorem dX10_run_20 : decode cX10_run 20 = .ok (.ineg, 1) := by decide +kernel
theorem dX10_run_21 : decode cX10_run 21 = .ok (.istore_n 3, 1) := by decide +kernel
theorem dX10_run_22 : decode cX10_run 22 = .ok (.iconst 0, 1) := by decide +kernel
theorem dX10_run_23 : decode cX10_run 23 = .ok (.istore 4, 2) := by decide +kernel
theorem dX10_run_25 : decode cX10_run 25 = .ok (.iload 4, 2) := by decide +kernel
theorem dX10_run_27 : decode cX10_run 27 = .ok (.aload_n 0, 1) := by decide +kernel
theorem dX10_run_28 : decode cX10_run 28 = .ok (.getfield 38, 3) := by decide +kernel
theorem dX10_run_31 : decode cX10_run 31 = .ok (.iload_n 1, 1) := by decide +kernel
theorem dX10_run_32 : decode cX10_run 32 = .ok (.iaload, 1) := by decide +kernel
theorem dX10_run_33 : decode cX10_run 33 = .ok (.if_icmp .ge 27, 3) := by decide +kernel
theorem dX10_run_36 : decode cX10_run 36 = .ok (.aload_n 0, 1) := by decide +kernel
theorem dX10_run_37 : decode cX10_run 37 = .ok (.aload_n 0, 1) := by decide +kernel
theorem dX10_run_38 : decode cX10_run 38 = .ok (.getfield 41, 3) := by decide +kernel
theorem dX10_run_41 : decode cX10_run 41 = .ok (.bipush 40, 2) := by decide +kernel
theorem dX10_run_43 : decode cX10_run 43 = .ok (.iload_n 1, 1) := by decide +kernel
theorem dX10_run_44 : decode cX10_run 44 = .ok (.imul, 1) := by decide +kernel
theorem dX10_run_45 : decode cX10_run 45 = .ok (.iload 4, 2) := by decide +kernel
theorem dX10_run_47 : decode cX10_run 47 = .ok (.iadd, 1) := by decide +kernel
theorem dX10_run_48 : decode cX10_run 48 = .ok (.iaload, 1) := by decide +kernel
theorem dX10_run_49 : decode cX10_run 49 = .ok (.invokevirtual 224, 3) := by decide +kernel
theorem dX10_run_52 : decode cX10_run 52 = .ok (.istore 5, 2) := by decide +kernel
theorem dX10_run_54 : decode cX10_run 54 = .ok (.iinc 4 1, 3) := by decide +kernel
theorem dX10_run_57 : decode cX10_run 57 = .ok (.goto (-32), 3) := by decide +kernel
theorem dX10_run_60 : decode cX10_run 60 = .ok (.iload_n 3, 1) := by decide +kernel
theorem dX10_run_61 : decode cX10_run 61 = .ok (.aload_n 0, 1) := by decide +kernel
theorem dX10_run_62 : decode cX10_run 62 = .ok (.invokevirtual 235, 3) := by decide +kernel
theorem dX10_run_65 : decode cX10_run 65 = .ok (.iadd, 1) := by decide +kernel
theorem dX10_run_66 : decode cX10_run 66 = .ok (.istore_n 3, 1) := by decide +kernel
theorem dX10_run_67 : decode cX10_run 67 = .ok (.aload_n 0, 1) := by decide +kernel
theorem dX10_run_68 : decode cX10_run 68 = .ok (.aload_n 0, 1) := by decide +kernel
theorem dX10_run_69 : decode cX10_run 69 = .ok (.getfield 25, 3) := by decide +kernel
theorem dX10_run_72 : decode cX10_run 72 = .ok (.iconst 0, 1) := by decide +kernel
theorem dX10_run_73 : decode cX10_run 73 = .ok (.iaload, 1) := by decide +kernel
theorem dX10_run_74 : decode cX10_run 74 = .ok (.putfield 118, 3) := by decide +kernel
theorem dX10_run_77 : decode cX10_run 77 = .ok (.aload_n 0, 1) := by decide +kernel
theorem dX10_run_78 : decode cX10_run 78 = .ok (.invokevirtual 239, 3) := by decide +kernel
theorem dX10_run_81 : decode cX10_run 81 = .ok (.iload_n 3, 1) := by decide +kernel
theorem dX10_run_82 : decode cX10_run 82 = .ok (.ireturn, 1) := by decide +kernel
theorem dX10_firstLurch_0 : decode cX10_firstLurch 0 = .ok (.iconst (-1), 1) := by decide +kernel
theorem dX10_firstLurch_1 : decode cX10_firstLurch 1 = .ok (.istore_n 2, 1) := by decide +kernel
theorem dX10_firstLurch_2 : decode cX10_firstLurch 2 = .ok (.iconst 0, 1) := by decide +kernel
theorem dX10_firstLurch_3 : decode cX10_firstLurch 3 = .ok (.istore_n 3, 1) := by decide +kernel
theorem dX10_firstLurch_4 : decode cX10_firstLurch 4 = .ok (.iload_n 3, 1) := by decide +kernel
theorem dX10_firstLurch_5 : decode cX10_firstLurch 5 = .ok (.aload_n 0, 1) := by decide +kernel
theorem dX10_firstLurch_6 : decode cX10_firstLurch 6 = .ok (.getfield 38, 3) := by decide +kernel
theorem dX10_firstLurch_9 : decode cX10_firstLurch 9 = .ok (.iload_n 1, 1) := by decide +kernel
theorem dX10_firstLurch_10 : decode cX10_firstLurch 10 = .ok (.iaload, 1) := by decide +kernel
theorem dX10_firstLurch_11 : decode cX10_firstLurch 11 = .ok (.if_icmp .ge 43, 3) := by decide +kernel
theorem dX10_firstLurch_14 : decode cX10_firstLurch 14 = .ok (.iload_n 2, 1) := by decide +kernel
theorem dX10_firstLurch_15 : decode cX10_firstLurch 15 = .ok (.ifCond .ge 39, 3) := by decide +kernel
theorem dX10_firstLurch_18 : decode cX10_firstLurch 18 = .ok (.aload_n 0, 1) := by decide +kernel
theorem dX10_firstLurch_19 : decode cX10_firstLurch 19 = .ok (.aload_n 0, 1) := by decide +kernel
theorem dX10_firstLurch_20 : decode cX10_firstLurch 20 = .ok (.getfield 41, 3) := by decide +kernel
theorem dX10_firstLurch_23 : decode cX10_firstLurch 23 = .ok (.bipush 40, 2) := by decide +kernel
theorem dX10_firstLurch_25 : decode cX10_firstLurch 25 = .ok (.iload_n 1, 1) := by decide +kernel
theorem dX10_firstLurch_26 : decode cX10_firstLurch 26 = .ok (.imul, 1) := by decide +kernel
theorem dX10_firstLurch_27 : decode cX10_firstLurch 27 = .ok (.iload_n 3, 1) := by decide +kernel
theorem dX10_firstLurch_28 : decode cX10_firstLurch 28 = .ok (.iadd, 1) := by decide +kernel
theorem dX10_firstLurch_29 : decode cX10_firstLurch 29 = .ok (.iaload, 1) := by decide +kernel
theorem dX10_firstLurch_30 : decode cX10_firstLurch 30 = .ok (.invokevirtual 224, 3) := by decide +kernel
theorem dX10_firstLurch_33 : decode cX10_firstLurch 33 = .ok (.istore 4, 2) := by decide +kernel
theorem dX10_firstLurch_35 : decode cX10_firstLurch 35 = .ok (.aload_n 0, 1) := by decide +kernel
theorem dX10_firstLurch_36 : decode cX10_firstLurch 36 = .ok (.getfield 170, 3) := by decide +kernel
theorem dX10_firstLurch_39 : decode cX10_firstLurch 39 = .ok (.ifCond .eq 7, 3) := by decide +kernel
theorem dX10_firstLurch_42 : decode cX10_firstLurch 42 = .ok (.iload_n 3, 1) := by decide +kernel
theorem dX10_firstLurch_43 : decode cX10_firstLurch 43 = .ok (.goto 4, 3) := by decide +kernel
theorem dX10_firstLurch_46 : decode cX10_firstLurch 46 = .ok (.iconst (-1), 1) := by decide +kernel
theorem dX10_firstLurch_47 : decode cX10_firstLurch 47 = .ok (.istore_n 2, 1) := by decide +kernel
theorem dX10_firstLurch_48 : decode cX10_firstLurch 48 = .ok (.iinc 3 1, 3) := by decide +kernel
theorem dX10_firstLurch_51 : decode cX10_firstLurch 51 = .ok (.goto (-47), 3) := by decide +kernel
theorem dX10_firstLurch_54 : decode cX10_firstLurch 54 = .ok (.iload_n 2, 1) := by decide +kernel
theorem dX10_firstLurch_55 : decode cX10_firstLurch 55 = .ok (.ireturn, 1) := by decide +kernel
theorem dX10_burns_0 : decode cX10_burns 0 = .ok (.aload_n 0, 1) := by decide +kernel
theorem dX10_burns_1 : decode cX10_burns 1 = .ok (.iload_n 1, 1) := by decide +kernel
theorem dX10_burns_2 : decode cX10_burns 2 = .ok (.invokevirtual 229, 3) := by decide +kernel
theorem dX10_burns_5 : decode cX10_burns 5 = .ok (.istore_n 2, 1) := by decide +kernel
theorem dX10_burns_6 : decode cX10_burns 6 = .ok (.iload_n 2, 1) := by decide +kernel
theorem dX10_burns_7 : decode cX10_burns 7 = .ok (.ifCond .eq 5, 3) := by decide +kernel
theorem dX10_burns_10 : decode cX10_burns 10 = .ok (.iload_n 2, 1) := by decide +kernel
theorem dX10_burns_11 : decode cX10_burns 11 = .ok (.ireturn, 1) := by decide +kernel
theorem dX10_burns_12 : decode cX10_burns 12 = .ok (.aload_n 0, 1) := by decide +kernel
theorem dX10_burns_13 : decode cX10_burns 13 = .ok (.invokevirtual 232, 3) := by decide +kernel
theorem dX10_burns_16 : decode cX10_burns 16 = .ok (.aload_n 0, 1) := by decide +kernel
theorem dX10_burns_17 : decode cX10_burns 17 = .ok (.iload_n 1, 1) := by decide +kernel
theorem dX10_burns_18 : decode cX10_burns 18 = .ok (.invokevirtual 242, 3) := by decide +kernel
theorem dX10_burns_21 : decode cX10_burns 21 = .ok (.istore_n 3, 1) := by decide +kernel
theorem dX10_burns_22 : decode cX10_burns 22 = .ok (.aload_n 0, 1) := by decide +kernel
theorem dX10_burns_23 : decode cX10_burns 23 = .ok (.invokevirtual 239, 3) := by decide +kernel
theorem dX10_burns_26 : decode cX10_burns 26 = .ok (.iload_n 3, 1) := by decide +kernel
theorem dX10_burns_27 : decode cX10_burns 27 = .ok (.ifCond .ge 6, 3) := by decide +kernel
theorem dX10_burns_30 : decode cX10_burns 30 = .ok (.bipush (-9), 2) := by decide +kernel
theorem dX10_burns_32 : decode cX10_burns 32 = .ok (.ireturn, 1) := by decide +kernel
theorem dX10_burns_33 : decode cX10_burns 33 = .ok (.aload_n 0, 1) := by decide +kernel
theorem dX10_burns_34 : decode cX10_burns 34 = .ok (.aload_n 0, 1) := by decide +kernel
theorem dX10_burns_35 : decode cX10_burns 35 = .ok (.getfield 170, 3) := by decide +kernel
theorem dX10_burns_38 : decode cX10_burns 38 = .ok (.putfield 118, 3) := by decide +kernel
theorem dX10_burns_41 : decode cX10_burns 41 = .ok (.iload_n 3, 1) := by decide +kernel
theorem dX10_burns_42 : decode cX10_burns 42 = .ok (.ireturn, 1) := by decide +kernel
theorem dX10_codes_0 : decode cX10_codes 0 = .ok (.iconst 1, 1) := by decide +kernel
theorem dX10_codes_1 : decode cX10_codes 1 = .ok (.aload_n 0, 1) := by decide +kernel
theorem dX10_codes_2 : decode cX10_codes 2 = .ok (.getfield 104, 3) := by decide +kernel
theorem dX10_codes_5 : decode cX10_codes 5 = .ok (.iload_n 1, 1) := by decide +kernel
theorem dX10_codes_6 : decode cX10_codes 6 = .ok (.imul, 1) := by decide +kernel
theorem dX10_codes_7 : decode cX10_codes 7 = .ok (.ishl, 1) := by decide +kernel
theorem dX10_codes_8 : decode cX10_codes 8 = .ok (.ireturn, 1) := by decide +kernel
theorem dX10_setOf_0 : decode cX10_setOf 0 = .ok (.iload_n 1, 1) := by decide +kernel
theorem dX10_setOf_1 : decode cX10_setOf 1 = .ok (.aload_n 0, 1) := by decide +kernel
theorem dX10_setOf_2 : decode cX10_setOf 2 = .ok (.getfield 104, 3) := by decide +kernel
theorem dX10_setOf_5 : decode cX10_setOf 5 = .ok (.iload_n 2, 1) := by decide +kernel
theorem dX10_setOf_6 : decode cX10_setOf 6 = .ok (.iconst 1, 1) := by decide +kernel
theorem dX10_setOf_7 : decode cX10_setOf 7 = .ok (.isub, 1) := by decide +kernel
theorem dX10_setOf_8 : decode cX10_setOf 8 = .ok (.iload_n 3, 1) := by decide +kernel
theorem dX10_setOf_9 : decode cX10_setOf 9 = .ok (.isub, 1) := by decide +kernel
theorem dX10_setOf_10 : decode cX10_setOf 10 = .ok (.imul, 1) := by decide +kernel
theorem dX10_setOf_11 : decode cX10_setOf 11 = .ok (.ishr, 1) := by decide +kernel
theorem dX10_setOf_12 : decode cX10_setOf 12 = .ok (.iconst 1, 1) := by decide +kernel
theorem dX10_setOf_13 : decode cX10_setOf 13 = .ok (.aload_n 0, 1) := by decide +kernel
theorem dX10_setOf_14 : decode cX10_setOf 14 = .ok (.getfield 104, 3) := by decide +kernel
theorem dX10_setOf_17 : decode cX10_setOf 17 = .ok (.ishl, 1) := by decide +kernel
theorem dX10_setOf_18 : decode cX10_setOf 18 = .ok (.iconst 1, 1) := by decide +kernel
theorem dX10_setOf_19 : decode cX10_setOf 19 = .ok (.isub, 1) := by decide +kernel
theorem dX10_setOf_20 : decode cX10_setOf 20 = .ok (.iand, 1) := by decide +kernel
theorem dX10_setOf_21 : decode cX10_setOf 21 = .ok (.ireturn, 1) := by decide +kernel
theorem dX10_layPlan_0 : decode cX10_layPlan 0 = .ok (.aload_n 0, 1) := by decide +kernel
theorem dX10_layPlan_1 : decode cX10_layPlan 1 = .ok (.iload_n 1, 1) := by decide +kernel
theorem dX10_layPlan_2 : decode cX10_layPlan 2 = .ok (.iload_n 3, 1) := by decide +kernel
theorem dX10_layPlan_3 : decode cX10_layPlan 3 = .ok (.invokevirtual 245, 3) := by decide +kernel
theorem dX10_layPlan_6 : decode cX10_layPlan 6 = .ok (.istore 4, 2) := by decide +kernel
theorem dX10_layPlan_8 : decode cX10_layPlan 8 = .ok (.iconst 0, 1) := by decide +kernel
theorem dX10_layPlan_9 : decode cX10_layPlan 9 = .ok (.istore 5, 2) := by decide +kernel
theorem dX10_layPlan_11 : decode cX10_layPlan 11 = .ok (.iload 5, 2) := by decide +kernel
theorem dX10_layPlan_13 : decode cX10_layPlan 13 = .ok (.iload_n 3, 1) := by decide +kernel
theorem dX10_layPlan_14 : decode cX10_layPlan 14 = .ok (.if_icmp .ge 29, 3) := by decide +kernel
theorem dX10_layPlan_17 : decode cX10_layPlan 17 = .ok (.aload_n 0, 1) := by decide +kernel
theorem dX10_layPlan_18 : decode cX10_layPlan 18 = .ok (.getfield 41, 3) := by decide +kernel
theorem dX10_layPlan_21 : decode cX10_layPlan 21 = .ok (.bipush 40, 2) := by decide +kernel
theorem dX10_layPlan_23 : decode cX10_layPlan 23 = .ok (.iload_n 1, 1) := by decide +kernel
theorem dX10_layPlan_24 : decode cX10_layPlan 24 = .ok (.imul, 1) := by decide +kernel
theorem dX10_layPlan_25 : decode cX10_layPlan 25 = .ok (.iload 5, 2) := by decide +kernel
theorem dX10_layPlan_27 : decode cX10_layPlan 27 = .ok (.iadd, 1) := by decide +kernel
theorem dX10_layPlan_28 : decode cX10_layPlan 28 = .ok (.aload_n 0, 1) := by decide +kernel
theorem dX10_layPlan_29 : decode cX10_layPlan 29 = .ok (.iload_n 2, 1) := by decide +kernel
theorem dX10_layPlan_30 : decode cX10_layPlan 30 = .ok (.iload_n 3, 1) := by decide +kernel
theorem dX10_layPlan_31 : decode cX10_layPlan 31 = .ok (.iload 5, 2) := by decide +kernel
theorem dX10_layPlan_33 : decode cX10_layPlan 33 = .ok (.invokevirtual 248, 3) := by decide +kernel
theorem dX10_layPlan_36 : decode cX10_layPlan 36 = .ok (.iastore, 1) := by decide +kernel
theorem dX10_layPlan_37 : decode cX10_layPlan 37 = .ok (.iinc 5 1, 3) := by decide +kernel
theorem dX10_layPlan_40 : decode cX10_layPlan 40 = .ok (.goto (-29), 3) := by decide +kernel
theorem dX10_layPlan_43 : decode cX10_layPlan 43 = .ok (.return_, 1) := by decide +kernel
theorem dX10_goPlan_0 : decode cX10_goPlan 0 = .ok (.iconst 1, 1) := by decide +kernel
theorem dX10_goPlan_1 : decode cX10_goPlan 1 = .ok (.istore_n 3, 1) := by decide +kernel
theorem dX10_goPlan_2 : decode cX10_goPlan 2 = .ok (.iconst 0, 1) := by decide +kernel
theorem dX10_goPlan_3 : decode cX10_goPlan 3 = .ok (.istore 4, 2) := by decide +kernel
theorem dX10_goPlan_5 : decode cX10_goPlan 5 = .ok (.iload 4, 2) := by decide +kernel
theorem dX10_goPlan_7 : decode cX10_goPlan 7 = .ok (.iload_n 2, 1) := by decide +kernel
theorem dX10_goPlan_8 : decode cX10_goPlan 8 = .ok (.if_icmp .ge 40, 3) := by decide +kernel
theorem dX10_goPlan_11 : decode cX10_goPlan 11 = .ok (.aload_n 0, 1) := by decide +kernel
theorem dX10_goPlan_12 : decode cX10_goPlan 12 = .ok (.aload_n 0, 1) := by decide +kernel
theorem dX10_goPlan_13 : decode cX10_goPlan 13 = .ok (.iload_n 1, 1) := by decide +kernel
theorem dX10_goPlan_14 : decode cX10_goPlan 14 = .ok (.iload_n 2, 1) := by decide +kernel
theorem dX10_goPlan_15 : decode cX10_goPlan 15 = .ok (.iload 4, 2) := by decide +kernel
theorem dX10_goPlan_17 : decode cX10_goPlan 17 = .ok (.invokevirtual 248, 3) := by decide +kernel
theorem dX10_goPlan_20 : decode cX10_goPlan 20 = .ok (.invokevirtual 224, 3) := by decide +kernel
theorem dX10_goPlan_23 : decode cX10_goPlan 23 = .ok (.istore 5, 2) := by decide +kernel
theorem dX10_goPlan_25 : decode cX10_goPlan 25 = .ok (.iload_n 3, 1) := by decide +kernel
theorem dX10_goPlan_26 : decode cX10_goPlan 26 = .ok (.ifCond .eq 14, 3) := by decide +kernel
theorem dX10_goPlan_29 : decode cX10_goPlan 29 = .ok (.aload_n 0, 1) := by decide +kernel
theorem dX10_goPlan_30 : decode cX10_goPlan 30 = .ok (.getfield 170, 3) := by decide +kernel
theorem dX10_goPlan_33 : decode cX10_goPlan 33 = .ok (.ifCond .ne 7, 3) := by decide +kernel
theorem dX10_goPlan_36 : decode cX10_goPlan 36 = .ok (.iconst 1, 1) := by decide +kernel
theorem dX10_goPlan_37 : decode cX10_goPlan 37 = .ok (.goto 4, 3) := by decide +kernel
theorem dX10_goPlan_40 : decode cX10_goPlan 40 = .ok (.iconst 0, 1) := by decide +kernel
theorem dX10_goPlan_41 : decode cX10_goPlan 41 = .ok (.istore_n 3, 1) := by decide +kernel
theorem dX10_goPlan_42 : decode cX10_goPlan 42 = .ok (.iinc 4 1, 3) := by decide +kernel
theorem dX10_goPlan_45 : decode cX10_goPlan 45 = .ok (.goto (-40), 3) := by decide +kernel
theorem dX10_goPlan_48 : decode cX10_goPlan 48 = .ok (.iload_n 3, 1) := by decide +kernel
theorem dX10_goPlan_49 : decode cX10_goPlan 49 = .ok (.ireturn, 1) := by decide +kernel
theorem dX10_best_0 : decode cX10_best 0 = .ok (.iload_n 1, 1) := by decide +kernel
theorem dX10_best_1 : decode cX10_best 1 = .ok (.i2l, 1) := by decide +kernel
theorem dX10_best_2 : decode cX10_best 2 = .ok (.lconst 0, 1) := by decide +kernel
theorem dX10_best_3 : decode cX10_best 3 = .ok (.ldc2_w 102, 3) := by decide +kernel
theorem dX10_best_6 : decode cX10_best 6 = .ok (.invokestatic 98, 3) := by decide +kernel
theorem dX10_best_9 : decode cX10_best 9 = .ok (.ifCond .eq 10, 3) := by decide +kernel
theorem dX10_best_12 : decode cX10_best 12 = .ok (.iload_n 2, 1) := by decide +kernel
theorem dX10_best_13 : decode cX10_best 13 = .ok (.invokestatic 110, 3) := by decide +kernel
theorem dX10_best_16 : decode cX10_best 16 = .ok (.ifCond .ne 5, 3) := by decide +kernel
theorem dX10_best_19 : decode cX10_best 19 = .ok (.iconst (-1), 1) := by decide +kernel
theorem dX10_best_20 : decode cX10_best 20 = .ok (.ireturn, 1) := by decide +kernel
theorem dX10_best_21 : decode cX10_best 21 = .ok (.aload_n 0, 1) := by decide +kernel
theorem dX10_best_22 : decode cX10_best 22 = .ok (.getfield 104, 3) := by decide +kernel
theorem dX10_best_25 : decode cX10_best 25 = .ok (.ifCond .ne 6, 3) := by decide +kernel
theorem dX10_best_28 : decode cX10_best 28 = .ok (.bipush (-4), 2) := by decide +kernel
theorem dX10_best_30 : decode cX10_best 30 = .ok (.ireturn, 1) := by decide +kernel
theorem dX10_best_31 : decode cX10_best 31 = .ok (.aload_n 0, 1) := by decide +kernel
theorem dX10_best_32 : decode cX10_best 32 = .ok (.invokevirtual 232, 3) := by decide +kernel
theorem dX10_best_35 : decode cX10_best 35 = .ok (.aload_n 0, 1) := by decide +kernel
theorem dX10_best_36 : decode cX10_best 36 = .ok (.invokevirtual 235, 3) := by decide +kernel
theorem dX10_best_39 : decode cX10_best 39 = .ok (.istore_n 3, 1) := by decide +kernel
theorem dX10_best_40 : decode cX10_best 40 = .ok (.iconst 0, 1) := by decide +kernel
theorem dX10_best_41 : decode cX10_best 41 = .ok (.istore 4, 2) := by decide +kernel
theorem dX10_best_43 : decode cX10_best 43 = .ok (.iconst (-1), 1) := by decide +kernel
theorem dX10_best_44 : decode cX10_best 44 = .ok (.istore 5, 2) := by decide +kernel
theorem dX10_best_46 : decode cX10_best 46 = .ok (.iconst 0, 1) := by decide +kernel
theorem dX10_best_47 : decode cX10_best 47 = .ok (.istore 6, 2) := by decide +kernel
theorem dX10_best_49 : decode cX10_best 49 = .ok (.iload 6, 2) := by decide +kernel
theorem dX10_best_51 : decode cX10_best 51 = .ok (.aload_n 0, 1) := by decide +kernel
theorem dX10_best_52 : decode cX10_best 52 = .ok (.iload_n 1, 1) := by decide +kernel
theorem dX10_best_53 : decode cX10_best 53 = .ok (.invokevirtual 251, 3) := by decide +kernel
theorem dX10_best_56 : decode cX10_best 56 = .ok (.if_icmp .ge 62, 3) := by decide +kernel
theorem dX10_best_59 : decode cX10_best 59 = .ok (.aload_n 0, 1) := by decide +kernel
theorem dX10_best_60 : decode cX10_best 60 = .ok (.iload 6, 2) := by decide +kernel
theorem dX10_best_62 : decode cX10_best 62 = .ok (.iload_n 1, 1) := by decide +kernel
theorem dX10_best_63 : decode cX10_best 63 = .ok (.invokevirtual 254, 3) := by decide +kernel
theorem dX10_best_66 : decode cX10_best 66 = .ok (.istore 7, 2) := by decide +kernel
theorem dX10_best_68 : decode cX10_best 68 = .ok (.aload_n 0, 1) := by decide +kernel
theorem dX10_best_69 : decode cX10_best 69 = .ok (.invokevirtual 235, 3) := by decide +kernel
theorem dX10_best_72 : decode cX10_best 72 = .ok (.iload_n 3, 1) := by decide +kernel
theorem dX10_best_73 : decode cX10_best 73 = .ok (.isub, 1) := by decide +kernel
theorem dX10_best_74 : decode cX10_best 74 = .ok (.istore 8, 2) := by decide +kernel
theorem dX10_best_76 : decode cX10_best 76 = .ok (.aload_n 0, 1) := by decide +kernel
theorem dX10_best_77 : decode cX10_best 77 = .ok (.invokevirtual 239, 3) := by decide +kernel
theorem dX10_best_80 : decode cX10_best 80 = .ok (.iload 8, 2) := by decide +kernel
theorem dX10_best_82 : decode cX10_best 82 = .ok (.iload 5, 2) := by decide +kernel
theorem dX10_best_84 : decode cX10_best 84 = .ok (.if_icmp .le 8, 3) := by decide +kernel
theorem dX10_best_87 : decode cX10_best 87 = .ok (.iload 6, 2) := by decide +kernel
theorem dX10_best_89 : decode cX10_best 89 = .ok (.goto 5, 3) := by decide +kernel
theorem dX10_best_92 : decode cX10_best 92 = .ok (.iload 4, 2) := by decide +kernel
theorem dX10_best_94 : decode cX10_best 94 = .ok (.istore 4, 2) := by decide +kernel
theorem dX10_best_96 : decode cX10_best 96 = .ok (.iload 8, 2) := by decide +kernel
theorem dX10_best_98 : decode cX10_best 98 = .ok (.iload 5, 2) := by decide +kernel
theorem dX10_best_100 : decode cX10_best 100 = .ok (.if_icmp .le 8, 3) := by decide +kernel
theorem dX10_best_103 : decode cX10_best 103 = .ok (.iload 8, 2) := by decide +kernel
theorem dX10_best_105 : decode cX10_best 105 = .ok (.goto 5, 3) := by decide +kernel
theorem dX10_best_108 : decode cX10_best 108 = .ok (.iload 5, 2) := by decide +kernel
theorem dX10_best_110 : decode cX10_best 110 = .ok (.istore 5, 2) := by decide +kernel
theorem dX10_best_112 : decode cX10_best 112 = .ok (.iinc 6 1, 3) := by decide +kernel
theorem dX10_best_115 : decode cX10_best 115 = .ok (.goto (-66), 3) := by decide +kernel
theorem dX10_best_118 : decode cX10_best 118 = .ok (.aload_n 0, 1) := by decide +kernel
theorem dX10_best_119 : decode cX10_best 119 = .ok (.iload_n 2, 1) := by decide +kernel
theorem dX10_best_120 : decode cX10_best 120 = .ok (.iload 4, 2) := by decide +kernel
theorem dX10_best_122 : decode cX10_best 122 = .ok (.iload_n 1, 1) := by decide +kernel
theorem dX10_best_123 : decode cX10_best 123 = .ok (.invokevirtual 257, 3) := by decide +kernel
theorem dX10_best_126 : decode cX10_best 126 = .ok (.iload 5, 2) := by decide +kernel
theorem dX10_best_128 : decode cX10_best 128 = .ok (.ireturn, 1) := by decide +kernel
theorem dX10_slowest_0 : decode cX10_slowest 0 = .ok (.iload_n 1, 1) := by decide +kernel
theorem dX10_slowest_1 : decode cX10_slowest 1 = .ok (.i2l, 1) := by decide +kernel
theorem dX10_slowest_2 : decode cX10_slowest 2 = .ok (.lconst 0, 1) := by decide +kernel
theorem dX10_slowest_3 : decode cX10_slowest 3 = .ok (.ldc2_w 102, 3) := by decide +kernel
theorem dX10_slowest_6 : decode cX10_slowest 6 = .ok (.invokestatic 98, 3) := by decide +kernel
theorem dX10_slowest_9 : decode cX10_slowest 9 = .ok (.ifCond .eq 10, 3) := by decide +kernel
theorem dX10_slowest_12 : decode cX10_slowest 12 = .ok (.iload_n 2, 1) := by decide +kernel
theorem dX10_slowest_13 : decode cX10_slowest 13 = .ok (.invokestatic 110, 3) := by decide +kernel
theorem dX10_slowest_16 : decode cX10_slowest 16 = .ok (.ifCond .ne 5, 3) := by decide +kernel
theorem dX10_slowest_19 : decode cX10_slowest 19 = .ok (.iconst (-1), 1) := by decide +kernel
theorem dX10_slowest_20 : decode cX10_slowest 20 = .ok (.ireturn, 1) := by decide +kernel
theorem dX10_slowest_21 : decode cX10_slowest 21 = .ok (.aload_n 0, 1) := by decide +kernel
theorem dX10_slowest_22 : decode cX10_slowest 22 = .ok (.getfield 104, 3) := by decide +kernel
theorem dX10_slowest_25 : decode cX10_slowest 25 = .ok (.ifCond .ne 6, 3) := by decide +kernel
theorem dX10_slowest_28 : decode cX10_slowest 28 = .ok (.bipush (-4), 2) := by decide +kernel
theorem dX10_slowest_30 : decode cX10_slowest 30 = .ok (.ireturn, 1) := by decide +kernel
theorem dX10_slowest_31 : decode cX10_slowest 31 = .ok (.aload_n 0, 1) := by decide +kernel
theorem dX10_slowest_32 : decode cX10_slowest 32 = .ok (.invokevirtual 232, 3) := by decide +kernel
theorem dX10_slowest_35 : decode cX10_slowest 35 = .ok (.iconst 0, 1) := by decide +kernel
theorem dX10_slowest_36 : decode cX10_slowest 36 = .ok (.istore_n 3, 1) := by decide +kernel
theorem dX10_slowest_37 : decode cX10_slowest 37 = .ok (.ldc_w 261, 3) := by decide +kernel
theorem dX10_slowest_40 : decode cX10_slowest 40 = .ok (.istore 4, 2) := by decide +kernel
theorem dX10_slowest_42 : decode cX10_slowest 42 = .ok (.iconst 0, 1) := by decide +kernel
theorem dX10_slowest_43 : decode cX10_slowest 43 = .ok (.istore 5, 2) := by decide +kernel
theorem dX10_slowest_45 : decode cX10_slowest 45 = .ok (.iload 5, 2) := by decide +kernel
theorem dX10_slowest_47 : decode cX10_slowest 47 = .ok (.aload_n 0, 1) := by decide +kernel
theorem dX10_slowest_48 : decode cX10_slowest 48 = .ok (.iload_n 1, 1) := by decide +kernel
theorem dX10_slowest_49 : decode cX10_slowest 49 = .ok (.invokevirtual 251, 3) := by decide +kernel
theorem dX10_slowest_52 : decode cX10_slowest 52 = .ok (.if_icmp .ge 71, 3) := by decide +kernel
theorem dX10_slowest_55 : decode cX10_slowest 55 = .ok (.aload_n 0, 1) := by decide +kernel
theorem dX10_slowest_56 : decode cX10_slowest 56 = .ok (.iload 5, 2) := by decide +kernel
theorem dX10_slowest_58 : decode cX10_slowest 58 = .ok (.iload_n 1, 1) := by decide +kernel
theorem dX10_slowest_59 : decode cX10_slowest 59 = .ok (.invokevirtual 254, 3) := by decide +kernel
theorem dX10_slowest_62 : decode cX10_slowest 62 = .ok (.istore 6, 2) := by decide +kernel
theorem dX10_slowest_64 : decode cX10_slowest 64 = .ok (.iload 6, 2) := by decide +kernel
theorem dX10_slowest_66 : decode cX10_slowest 66 = .ok (.ifCond .eq 12, 3) := by decide +kernel
theorem dX10_slowest_69 : decode cX10_slowest 69 = .ok (.aload_n 0, 1) := by decide +kernel
theorem dX10_slowest_70 : decode cX10_slowest 70 = .ok (.getfield 25, 3) := by decide +kernel
theorem dX10_slowest_73 : decode cX10_slowest 73 = .ok (.iconst 0, 1) := by decide +kernel
theorem dX10_slowest_74 : decode cX10_slowest 74 = .ok (.iaload, 1) := by decide +kernel
theorem dX10_slowest_75 : decode cX10_slowest 75 = .ok (.goto 6, 3) := by decide +kernel
theorem dX10_slowest_78 : decode cX10_slowest 78 = .ok (.ldc_w 261, 3) := by decide +kernel
theorem dX10_slowest_81 : decode cX10_slowest 81 = .ok (.istore 7, 2) := by decide +kernel
theorem dX10_slowest_83 : decode cX10_slowest 83 = .ok (.aload_n 0, 1) := by decide +kernel
theorem dX10_slowest_84 : decode cX10_slowest 84 = .ok (.invokevirtual 239, 3) := by decide +kernel
theorem dX10_slowest_87 : decode cX10_slowest 87 = .ok (.iload 7, 2) := by decide +kernel
theorem dX10_slowest_89 : decode cX10_slowest 89 = .ok (.iload 4, 2) := by decide +kernel
theorem dX10_slowest_91 : decode cX10_slowest 91 = .ok (.if_icmp .ge 8, 3) := by decide +kernel
theorem dX10_slowest_94 : decode cX10_slowest 94 = .ok (.iload 5, 2) := by decide +kernel
theorem dX10_slowest_96 : decode cX10_slowest 96 = .ok (.goto 4, 3) := by decide +kernel
theorem dX10_slowest_99 : decode cX10_slowest 99 = .ok (.iload_n 3, 1) := by decide +kernel
theorem dX10_slowest_100 : decode cX10_slowest 100 = .ok (.istore_n 3, 1) := by decide +kernel
theorem dX10_slowest_101 : decode cX10_slowest 101 = .ok (.iload 7, 2) := by decide +kernel
theorem dX10_slowest_103 : decode cX10_slowest 103 = .ok (.iload 4, 2) := by decide +kernel
theorem dX10_slowest_105 : decode cX10_slowest 105 = .ok (.if_icmp .ge 8, 3) := by decide +kernel
theorem dX10_slowest_108 : decode cX10_slowest 108 = .ok (.iload 7, 2) := by decide +kernel
theorem dX10_slowest_110 : decode cX10_slowest 110 = .ok (.goto 5, 3) := by decide +kernel
theorem dX10_slowest_113 : decode cX10_slowest 113 = .ok (.iload 4, 2) := by decide +kernel
theorem dX10_slowest_115 : decode cX10_slowest 115 = .ok (.istore 4, 2) := by decide +kernel
theorem dX10_slowest_117 : decode cX10_slowest 117 = .ok (.iinc 5 1, 3) := by decide +kernel
theorem dX10_slowest_120 : decode cX10_slowest 120 = .ok (.goto (-75), 3) := by decide +kernel
theorem dX10_slowest_123 : decode cX10_slowest 123 = .ok (.aload_n 0, 1) := by decide +kernel
theorem dX10_slowest_124 : decode cX10_slowest 124 = .ok (.iload_n 2, 1) := by decide +kernel
theorem dX10_slowest_125 : decode cX10_slowest 125 = .ok (.iload_n 3, 1) := by decide +kernel
theorem dX10_slowest_126 : decode cX10_slowest 126 = .ok (.iload_n 1, 1) := by decide +kernel
theorem dX10_slowest_127 : decode cX10_slowest 127 = .ok (.invokevirtual 257, 3) := by decide +kernel
theorem dX10_slowest_130 : decode cX10_slowest 130 = .ok (.iload 4, 2) := by decide +kernel
theorem dX10_slowest_132 : decode cX10_slowest 132 = .ok (.ireturn, 1) := by decide +kernel
theorem dX10_hoursTillDown_0 : decode cX10_hoursTillDown 0 = .ok (.aload_n 0, 1) := by decide +kernel
theorem dX10_hoursTillDown_1 : decode cX10_hoursTillDown 1 = .ok (.invokevirtual 232, 3) := by decide +kernel
theorem dX10_hoursTillDown_4 : decode cX10_hoursTillDown 4 = .ok (.iconst 0, 1) := by decide +kernel
theorem dX10_hoursTillDown_5 : decode cX10_hoursTillDown 5 = .ok (.istore_n 2, 1) := by decide +kernel
theorem dX10_hoursTillDown_6 : decode cX10_hoursTillDown 6 = .ok (.aload_n 0, 1) := by decide +kernel
theorem dX10_hoursTillDown_7 : decode cX10_hoursTillDown 7 = .ok (.invokevirtual 163, 3) := by decide +kernel
theorem dX10_hoursTillDown_10 : decode cX10_hoursTillDown 10 = .ok (.ifCond .ne 15, 3) := by decide +kernel
theorem dX10_hoursTillDown_13 : decode cX10_hoursTillDown 13 = .ok (.aload_n 0, 1) := by decide +kernel
theorem dX10_hoursTillDown_14 : decode cX10_hoursTillDown 14 = .ok (.iload_n 1, 1) := by decide +kernel
theorem dX10_hoursTillDown_15 : decode cX10_hoursTillDown 15 = .ok (.invokevirtual 224, 3) := by decide +kernel
theorem dX10_hoursTillDown_18 : decode cX10_hoursTillDown 18 = .ok (.istore_n 3, 1) := by decide +kernel
theorem dX10_hoursTillDown_19 : decode cX10_hoursTillDown 19 = .ok (.iinc 2 1, 3) := by decide +kernel
theorem dX10_hoursTillDown_22 : decode cX10_hoursTillDown 22 = .ok (.goto (-16), 3) := by decide +kernel
theorem dX10_hoursTillDown_25 : decode cX10_hoursTillDown 25 = .ok (.aload_n 0, 1) := by decide +kernel
theorem dX10_hoursTillDown_26 : decode cX10_hoursTillDown 26 = .ok (.invokevirtual 239, 3) := by decide +kernel
theorem dX10_hoursTillDown_29 : decode cX10_hoursTillDown 29 = .ok (.iload_n 2, 1) := by decide +kernel
theorem dX10_hoursTillDown_30 : decode cX10_hoursTillDown 30 = .ok (.ireturn, 1) := by decide +kernel
theorem dX10_down_0 : decode cX10_down 0 = .ok (.aload_n 0, 1) := by decide +kernel
theorem dX10_down_1 : decode cX10_down 1 = .ok (.iload_n 1, 1) := by decide +kernel
theorem dX10_down_2 : decode cX10_down 2 = .ok (.invokevirtual 218, 3) := by decide +kernel
theorem dX10_down_5 : decode cX10_down 5 = .ok (.ifCond .ne 5, 3) := by decide +kernel
theorem dX10_down_8 : decode cX10_down 8 = .ok (.iconst (-1), 1) := by decide +kernel
theorem dX10_down_9 : decode cX10_down 9 = .ok (.ireturn, 1) := by decide +kernel
theorem dX10_down_10 : decode cX10_down 10 = .ok (.aload_n 0, 1) := by decide +kernel
theorem dX10_down_11 : decode cX10_down 11 = .ok (.getfield 104, 3) := by decide +kernel
theorem dX10_down_14 : decode cX10_down 14 = .ok (.ifCond .ne 8, 3) := by decide +kernel
theorem dX10_down_17 : decode cX10_down 17 = .ok (.bipush (-4), 2) := by decide +kernel
theorem dX10_down_19 : decode cX10_down 19 = .ok (.goto 8, 3) := by decide +kernel
theorem dX10_down_22 : decode cX10_down 22 = .ok (.aload_n 0, 1) := by decide +kernel
theorem dX10_down_23 : decode cX10_down 23 = .ok (.iload_n 1, 1) := by decide +kernel
theorem dX10_down_24 : decode cX10_down 24 = .ok (.invokevirtual 262, 3) := by decide +kernel
theorem dX10_down_27 : decode cX10_down 27 = .ok (.ireturn, 1) := by decide +kernel
theorem dX10_longest_0 : decode cX10_longest 0 = .ok (.aload_n 0, 1) := by decide +kernel
theorem dX10_longest_1 : decode cX10_longest 1 = .ok (.getfield 104, 3) := by decide +kernel
theorem dX10_longest_4 : decode cX10_longest 4 = .ok (.ifCond .ne 6, 3) := by decide +kernel
theorem dX10_longest_7 : decode cX10_longest 7 = .ok (.bipush (-4), 2) := by decide +kernel
theorem dX10_longest_9 : decode cX10_longest 9 = .ok (.ireturn, 1) := by decide +kernel
theorem dX10_longest_10 : decode cX10_longest 10 = .ok (.iconst 0, 1) := by decide +kernel
theorem dX10_longest_11 : decode cX10_longest 11 = .ok (.istore_n 1, 1) := by decide +kernel
theorem dX10_longest_12 : decode cX10_longest 12 = .ok (.iconst (-1), 1) := by decide +kernel
theorem dX10_longest_13 : decode cX10_longest 13 = .ok (.istore_n 2, 1) := by decide +kernel
theorem dX10_longest_14 : decode cX10_longest 14 = .ok (.iconst 0, 1) := by decide +kernel
theorem dX10_longest_15 : decode cX10_longest 15 = .ok (.istore_n 3, 1) := by decide +kernel
theorem dX10_longest_16 : decode cX10_longest 16 = .ok (.iload_n 3, 1) := by decide +kernel
theorem dX10_longest_17 : decode cX10_longest 17 = .ok (.iconst 1, 1) := by decide +kernel
theorem dX10_longest_18 : decode cX10_longest 18 = .ok (.aload_n 0, 1) := by decide +kernel
theorem dX10_longest_19 : decode cX10_longest 19 = .ok (.getfield 104, 3) := by decide +kernel
theorem dX10_longest_22 : decode cX10_longest 22 = .ok (.ishl, 1) := by decide +kernel
theorem dX10_longest_23 : decode cX10_longest 23 = .ok (.if_icmp .ge 41, 3) := by decide +kernel
theorem dX10_longest_26 : decode cX10_longest 26 = .ok (.aload_n 0, 1) := by decide +kernel
theorem dX10_longest_27 : decode cX10_longest 27 = .ok (.iload_n 3, 1) := by decide +kernel
theorem dX10_longest_28 : decode cX10_longest 28 = .ok (.invokevirtual 262, 3) := by decide +kernel
theorem dX10_longest_31 : decode cX10_longest 31 = .ok (.istore 4, 2) := by decide +kernel
theorem dX10_longest_33 : decode cX10_longest 33 = .ok (.iload 4, 2) := by decide +kernel
theorem dX10_longest_35 : decode cX10_longest 35 = .ok (.iload_n 2, 1) := by decide +kernel
theorem dX10_longest_36 : decode cX10_longest 36 = .ok (.if_icmp .le 7, 3) := by decide +kernel
theorem dX10_longest_39 : decode cX10_longest 39 = .ok (.iload_n 3, 1) := by decide +kernel
theorem dX10_longest_40 : decode cX10_longest 40 = .ok (.goto 4, 3) := by decide +kernel
theorem dX10_longest_43 : decode cX10_longest 43 = .ok (.iload_n 1, 1) := by decide +kernel
theorem dX10_longest_44 : decode cX10_longest 44 = .ok (.istore_n 1, 1) := by decide +kernel
theorem dX10_longest_45 : decode cX10_longest 45 = .ok (.iload 4, 2) := by decide +kernel
theorem dX10_longest_47 : decode cX10_longest 47 = .ok (.iload_n 2, 1) := by decide +kernel
theorem dX10_longest_48 : decode cX10_longest 48 = .ok (.if_icmp .le 8, 3) := by decide +kernel
theorem dX10_longest_51 : decode cX10_longest 51 = .ok (.iload 4, 2) := by decide +kernel
theorem dX10_longest_53 : decode cX10_longest 53 = .ok (.goto 4, 3) := by decide +kernel
theorem dX10_longest_56 : decode cX10_longest 56 = .ok (.iload_n 2, 1) := by decide +kernel
theorem dX10_longest_57 : decode cX10_longest 57 = .ok (.istore_n 2, 1) := by decide +kernel
theorem dX10_longest_58 : decode cX10_longest 58 = .ok (.iinc 3 1, 3) := by decide +kernel
theorem dX10_longest_61 : decode cX10_longest 61 = .ok (.goto (-45), 3) := by decide +kernel
theorem dX10_longest_64 : decode cX10_longest 64 = .ok (.aload_n 0, 1) := by decide +kernel
theorem dX10_longest_65 : decode cX10_longest 65 = .ok (.iload_n 2, 1) := by decide +kernel
theorem dX10_longest_66 : decode cX10_longest 66 = .ok (.putfield 118, 3) := by decide +kernel
theorem dX10_longest_69 : decode cX10_longest 69 = .ok (.iload_n 1, 1) := by decide +kernel
theorem dX10_longest_70 : decode cX10_longest 70 = .ok (.ireturn, 1) := by decide +kernel
theorem dX10_ropes_0 : decode cX10_ropes 0 = .ok (.aload_n 0, 1) := by decide +kernel
theorem dX10_ropes_1 : decode cX10_ropes 1 = .ok (.iload_n 1, 1) := by decide +kernel
theorem dX10_ropes_2 : decode cX10_ropes 2 = .ok (.invokevirtual 229, 3) := by decide +kernel
theorem dX10_ropes_5 : decode cX10_ropes 5 = .ok (.istore_n 2, 1) := by decide +kernel
theorem dX10_ropes_6 : decode cX10_ropes 6 = .ok (.iload_n 2, 1) := by decide +kernel
theorem dX10_ropes_7 : decode cX10_ropes 7 = .ok (.ifCond .eq 5, 3) := by decide +kernel
theorem dX10_ropes_10 : decode cX10_ropes 10 = .ok (.iload_n 2, 1) := by decide +kernel
theorem dX10_ropes_11 : decode cX10_ropes 11 = .ok (.ireturn, 1) := by decide +kernel
theorem dX10_ropes_12 : decode cX10_ropes 12 = .ok (.aload_n 0, 1) := by decide +kernel
theorem dX10_ropes_13 : decode cX10_ropes 13 = .ok (.invokevirtual 232, 3) := by decide +kernel
theorem dX10_ropes_16 : decode cX10_ropes 16 = .ok (.iconst (-1), 1) := by decide +kernel
theorem dX10_ropes_17 : decode cX10_ropes 17 = .ok (.istore_n 3, 1) := by decide +kernel
theorem dX10_ropes_18 : decode cX10_ropes 18 = .ok (.iconst 0, 1) := by decide +kernel
theorem dX10_ropes_19 : decode cX10_ropes 19 = .ok (.istore 4, 2) := by decide +kernel
theorem dX10_ropes_21 : decode cX10_ropes 21 = .ok (.iload 4, 2) := by decide +kernel
theorem dX10_ropes_23 : decode cX10_ropes 23 = .ok (.iconst 1, 1) := by decide +kernel
theorem dX10_ropes_24 : decode cX10_ropes 24 = .ok (.aload_n 0, 1) := by decide +kernel
theorem dX10_ropes_25 : decode cX10_ropes 25 = .ok (.getfield 104, 3) := by decide +kernel
theorem dX10_ropes_28 : decode cX10_ropes 28 = .ok (.ishl, 1) := by decide +kernel
theorem dX10_ropes_29 : decode cX10_ropes 29 = .ok (.if_icmp .ge 107, 3) := by decide +kernel
theorem dX10_ropes_32 : decode cX10_ropes 32 = .ok (.iconst 0, 1) := by decide +kernel
theorem dX10_ropes_33 : decode cX10_ropes 33 = .ok (.istore 5, 2) := by decide +kernel
theorem dX10_ropes_35 : decode cX10_ropes 35 = .ok (.iload 5, 2) := by decide +kernel
theorem dX10_ropes_37 : decode cX10_ropes 37 = .ok (.aload_n 0, 1) := by decide +kernel
theorem dX10_ropes_38 : decode cX10_ropes 38 = .ok (.getfield 104, 3) := by decide +kernel
theorem dX10_ropes_41 : decode cX10_ropes 41 = .ok (.if_icmp .ge 42, 3) := by decide +kernel
theorem dX10_ropes_44 : decode cX10_ropes 44 = .ok (.aload_n 0, 1) := by decide +kernel
theorem dX10_ropes_45 : decode cX10_ropes 45 = .ok (.getfield 25, 3) := by decide +kernel
theorem dX10_ropes_48 : decode cX10_ropes 48 = .ok (.iconst 2, 1) := by decide +kernel
theorem dX10_ropes_49 : decode cX10_ropes 49 = .ok (.iload 5, 2) := by decide +kernel
theorem dX10_ropes_51 : decode cX10_ropes 51 = .ok (.iadd, 1) := by decide +kernel
theorem dX10_ropes_52 : decode cX10_ropes 52 = .ok (.iload 4, 2) := by decide +kernel
theorem dX10_ropes_54 : decode cX10_ropes 54 = .ok (.iload 5, 2) := by decide +kernel
theorem dX10_ropes_56 : decode cX10_ropes 56 = .ok (.invokestatic 179, 3) := by decide +kernel
theorem dX10_ropes_59 : decode cX10_ropes 59 = .ok (.ifCond .eq 8, 3) := by decide +kernel
theorem dX10_ropes_62 : decode cX10_ropes 62 = .ok (.bipush 9, 2) := by decide +kernel
theorem dX10_ropes_64 : decode cX10_ropes 64 = .ok (.goto 12, 3) := by decide +kernel
theorem dX10_ropes_67 : decode cX10_ropes 67 = .ok (.aload_n 0, 1) := by decide +kernel
theorem dX10_ropes_68 : decode cX10_ropes 68 = .ok (.getfield 25, 3) := by decide +kernel
theorem dX10_ropes_71 : decode cX10_ropes 71 = .ok (.iconst 2, 1) := by decide +kernel
theorem dX10_ropes_72 : decode cX10_ropes 72 = .ok (.iload 5, 2) := by decide +kernel
theorem dX10_ropes_74 : decode cX10_ropes 74 = .ok (.iadd, 1) := by decide +kernel
theorem dX10_ropes_75 : decode cX10_ropes 75 = .ok (.iaload, 1) := by decide +kernel
theorem dX10_ropes_76 : decode cX10_ropes 76 = .ok (.iastore, 1) := by decide +kernel
theorem dX10_ropes_77 : decode cX10_ropes 77 = .ok (.iinc 5 1, 3) := by decide +kernel
theorem dX10_ropes_80 : decode cX10_ropes 80 = .ok (.goto (-45), 3) := by decide +kernel
theorem dX10_ropes_83 : decode cX10_ropes 83 = .ok (.aload_n 0, 1) := by decide +kernel
theorem dX10_ropes_84 : decode cX10_ropes 84 = .ok (.iload_n 1, 1) := by decide +kernel
theorem dX10_ropes_85 : decode cX10_ropes 85 = .ok (.invokevirtual 242, 3) := by decide +kernel
theorem dX10_ropes_88 : decode cX10_ropes 88 = .ok (.ifCond .ge 7, 3) := by decide +kernel
theorem dX10_ropes_91 : decode cX10_ropes 91 = .ok (.iconst 1, 1) := by decide +kernel
theorem dX10_ropes_92 : decode cX10_ropes 92 = .ok (.goto 4, 3) := by decide +kernel
theorem dX10_ropes_95 : decode cX10_ropes 95 = .ok (.iconst 0, 1) := by decide +kernel
theorem dX10_ropes_96 : decode cX10_ropes 96 = .ok (.istore 5, 2) := by decide +kernel
theorem dX10_ropes_98 : decode cX10_ropes 98 = .ok (.aload_n 0, 1) := by decide +kernel
theorem dX10_ropes_99 : decode cX10_ropes 99 = .ok (.invokevirtual 239, 3) := by decide +kernel
theorem dX10_ropes_102 : decode cX10_ropes 102 = .ok (.iload 5, 2) := by decide +kernel
theorem dX10_ropes_104 : decode cX10_ropes 104 = .ok (.ifCond .eq 24, 3) := by decide +kernel
theorem dX10_ropes_107 : decode cX10_ropes 107 = .ok (.iload_n 3, 1) := by decide +kernel
theorem dX10_ropes_108 : decode cX10_ropes 108 = .ok (.ifCond .lt 15, 3) := by decide +kernel
theorem dX10_ropes_111 : decode cX10_ropes 111 = .ok (.iload 4, 2) := by decide +kernel
theorem dX10_ropes_113 : decode cX10_ropes 113 = .ok (.invokestatic 195, 3) := by decide +kernel
theorem dX10_ropes_116 : decode cX10_ropes 116 = .ok (.iload_n 3, 1) := by decide +kernel
theorem dX10_ropes_117 : decode cX10_ropes 117 = .ok (.invokestatic 195, 3) := by decide +kernel
theorem dX10_ropes_120 : decode cX10_ropes 120 = .ok (.if_icmp .ge 8, 3) := by decide +kernel
theorem dX10_ropes_123 : decode cX10_ropes 123 = .ok (.iload 4, 2) := by decide +kernel
theorem dX10_ropes_125 : decode cX10_ropes 125 = .ok (.goto 4, 3) := by decide +kernel
theorem dX10_ropes_128 : decode cX10_ropes 128 = .ok (.iload_n 3, 1) := by decide +kernel
theorem dX10_ropes_129 : decode cX10_ropes 129 = .ok (.istore_n 3, 1) := by decide +kernel
theorem dX10_ropes_130 : decode cX10_ropes 130 = .ok (.iinc 4 1, 3) := by decide +kernel
theorem dX10_ropes_133 : decode cX10_ropes 133 = .ok (.goto (-112), 3) := by decide +kernel
theorem dX10_ropes_136 : decode cX10_ropes 136 = .ok (.iload_n 3, 1) := by decide +kernel
theorem dX10_ropes_137 : decode cX10_ropes 137 = .ok (.ifCond .ge 6, 3) := by decide +kernel
theorem dX10_ropes_140 : decode cX10_ropes 140 = .ok (.bipush (-9), 2) := by decide +kernel
theorem dX10_ropes_142 : decode cX10_ropes 142 = .ok (.ireturn, 1) := by decide +kernel
theorem dX10_ropes_143 : decode cX10_ropes 143 = .ok (.aload_n 0, 1) := by decide +kernel
theorem dX10_ropes_144 : decode cX10_ropes 144 = .ok (.iload_n 3, 1) := by decide +kernel
theorem dX10_ropes_145 : decode cX10_ropes 145 = .ok (.putfield 118, 3) := by decide +kernel
theorem dX10_ropes_148 : decode cX10_ropes 148 = .ok (.iload_n 3, 1) := by decide +kernel
theorem dX10_ropes_149 : decode cX10_ropes 149 = .ok (.invokestatic 195, 3) := by decide +kernel
theorem dX10_ropes_152 : decode cX10_ropes 152 = .ok (.ireturn, 1) := by decide +kernel
theorem dX10_jumpsBy_0 : decode cX10_jumpsBy 0 = .ok (.iload_n 1, 1) := by decide +kernel
theorem dX10_jumpsBy_1 : decode cX10_jumpsBy 1 = .ok (.istore 4, 2) := by decide +kernel
theorem dX10_jumpsBy_3 : decode cX10_jumpsBy 3 = .ok (.iconst 0, 1) := by decide +kernel
theorem dX10_jumpsBy_4 : decode cX10_jumpsBy 4 = .ok (.istore 5, 2) := by decide +kernel
theorem dX10_jumpsBy_6 : decode cX10_jumpsBy 6 = .ok (.iload_n 2, 1) := by decide +kernel
theorem dX10_jumpsBy_7 : decode cX10_jumpsBy 7 = .ok (.istore 6, 2) := by decide +kernel
theorem dX10_jumpsBy_9 : decode cX10_jumpsBy 9 = .ok (.iconst 1, 1) := by decide +kernel
theorem dX10_jumpsBy_10 : decode cX10_jumpsBy 10 = .ok (.istore 7, 2) := by decide +kernel
theorem dX10_jumpsBy_12 : decode cX10_jumpsBy 12 = .ok (.iconst 1, 1) := by decide +kernel
theorem dX10_jumpsBy_13 : decode cX10_jumpsBy 13 = .ok (.istore 8, 2) := by decide +kernel
theorem dX10_jumpsBy_15 : decode cX10_jumpsBy 15 = .ok (.iload 8, 2) := by decide +kernel
theorem dX10_jumpsBy_17 : decode cX10_jumpsBy 17 = .ok (.iload_n 3, 1) := by decide +kernel
theorem dX10_jumpsBy_18 : decode cX10_jumpsBy 18 = .ok (.if_icmp .ge 15, 3) := by decide +kernel
theorem dX10_jumpsBy_21 : decode cX10_jumpsBy 21 = .ok (.iload 7, 2) := by decide +kernel
theorem dX10_jumpsBy_23 : decode cX10_jumpsBy 23 = .ok (.iconst 5, 1) := by decide +kernel
theorem dX10_jumpsBy_24 : decode cX10_jumpsBy 24 = .ok (.imul, 1) := by decide +kernel
theorem dX10_jumpsBy_25 : decode cX10_jumpsBy 25 = .ok (.istore 7, 2) := by decide +kernel
theorem dX10_jumpsBy_27 : decode cX10_jumpsBy 27 = .ok (.iinc 8 1, 3) := by decide +kernel
theorem dX10_jumpsBy_30 : decode cX10_jumpsBy 30 = .ok (.goto (-15), 3) := by decide +kernel
theorem dX10_jumpsBy_33 : decode cX10_jumpsBy 33 = .ok (.iconst 0, 1) := by decide +kernel
theorem dX10_jumpsBy_34 : decode cX10_jumpsBy 34 = .ok (.istore 8, 2) := by decide +kernel
theorem dX10_jumpsBy_36 : decode cX10_jumpsBy 36 = .ok (.iload 8, 2) := by decide +kernel
theorem dX10_jumpsBy_38 : decode cX10_jumpsBy 38 = .ok (.iload_n 3, 1) := by decide +kernel
theorem dX10_jumpsBy_39 : decode cX10_jumpsBy 39 = .ok (.if_icmp .ge 64, 3) := by decide +kernel
theorem dX10_jumpsBy_42 : decode cX10_jumpsBy 42 = .ok (.iload 6, 2) := by decide +kernel
theorem dX10_jumpsBy_44 : decode cX10_jumpsBy 44 = .ok (.iload 7, 2) := by decide +kernel
theorem dX10_jumpsBy_46 : decode cX10_jumpsBy 46 = .ok (.idiv, 1) := by decide +kernel
theorem dX10_jumpsBy_47 : decode cX10_jumpsBy 47 = .ok (.iconst 5, 1) := by decide +kernel
theorem dX10_jumpsBy_48 : decode cX10_jumpsBy 48 = .ok (.irem, 1) := by decide +kernel
theorem dX10_jumpsBy_49 : decode cX10_jumpsBy 49 = .ok (.istore 9, 2) := by decide +kernel
theorem dX10_jumpsBy_51 : decode cX10_jumpsBy 51 = .ok (.iload 7, 2) := by decide +kernel
theorem dX10_jumpsBy_53 : decode cX10_jumpsBy 53 = .ok (.iconst 5, 1) := by decide +kernel
theorem dX10_jumpsBy_54 : decode cX10_jumpsBy 54 = .ok (.idiv, 1) := by decide +kernel
theorem dX10_jumpsBy_55 : decode cX10_jumpsBy 55 = .ok (.istore 7, 2) := by decide +kernel
theorem dX10_jumpsBy_57 : decode cX10_jumpsBy 57 = .ok (.iload 4, 2) := by decide +kernel
theorem dX10_jumpsBy_59 : decode cX10_jumpsBy 59 = .ok (.iload 9, 2) := by decide +kernel
theorem dX10_jumpsBy_61 : decode cX10_jumpsBy 61 = .ok (.invokestatic 179, 3) := by decide +kernel
theorem dX10_jumpsBy_64 : decode cX10_jumpsBy 64 = .ok (.ifCond .ne 5, 3) := by decide +kernel
theorem dX10_jumpsBy_67 : decode cX10_jumpsBy 67 = .ok (.iconst (-1), 1) := by decide +kernel
theorem dX10_jumpsBy_68 : decode cX10_jumpsBy 68 = .ok (.ireturn, 1) := by decide +kernel
theorem dX10_jumpsBy_69 : decode cX10_jumpsBy 69 = .ok (.iload 4, 2) := by decide +kernel
theorem dX10_jumpsBy_71 : decode cX10_jumpsBy 71 = .ok (.iconst 1, 1) := by decide +kernel
theorem dX10_jumpsBy_72 : decode cX10_jumpsBy 72 = .ok (.iload 9, 2) := by decide +kernel
theorem dX10_jumpsBy_74 : decode cX10_jumpsBy 74 = .ok (.ishl, 1) := by decide +kernel
theorem dX10_jumpsBy_75 : decode cX10_jumpsBy 75 = .ok (.iconst (-1), 1) := by decide +kernel
theorem dX10_jumpsBy_76 : decode cX10_jumpsBy 76 = .ok (.ixor, 1) := by decide +kernel
theorem dX10_jumpsBy_77 : decode cX10_jumpsBy 77 = .ok (.iand, 1) := by decide +kernel
theorem dX10_jumpsBy_78 : decode cX10_jumpsBy 78 = .ok (.istore 4, 2) := by decide +kernel
theorem dX10_jumpsBy_80 : decode cX10_jumpsBy 80 = .ok (.iload 5, 2) := by decide +kernel
theorem dX10_jumpsBy_82 : decode cX10_jumpsBy 82 = .ok (.aload_n 0, 1) := by decide +kernel
theorem dX10_jumpsBy_83 : decode cX10_jumpsBy 83 = .ok (.iload 9, 2) := by decide +kernel
theorem dX10_jumpsBy_85 : decode cX10_jumpsBy 85 = .ok (.invokevirtual 185, 3) := by decide +kernel
theorem dX10_jumpsBy_88 : decode cX10_jumpsBy 88 = .ok (.iload 4, 2) := by decide +kernel
theorem dX10_jumpsBy_90 : decode cX10_jumpsBy 90 = .ok (.invokestatic 195, 3) := by decide +kernel
theorem dX10_jumpsBy_93 : decode cX10_jumpsBy 93 = .ok (.imul, 1) := by decide +kernel
theorem dX10_jumpsBy_94 : decode cX10_jumpsBy 94 = .ok (.iadd, 1) := by decide +kernel
theorem dX10_jumpsBy_95 : decode cX10_jumpsBy 95 = .ok (.istore 5, 2) := by decide +kernel
theorem dX10_jumpsBy_97 : decode cX10_jumpsBy 97 = .ok (.iinc 8 1, 3) := by decide +kernel
theorem dX10_jumpsBy_100 : decode cX10_jumpsBy 100 = .ok (.goto (-64), 3) := by decide +kernel
theorem dX10_jumpsBy_103 : decode cX10_jumpsBy 103 = .ok (.iload 5, 2) := by decide +kernel
theorem dX10_jumpsBy_105 : decode cX10_jumpsBy 105 = .ok (.ireturn, 1) := by decide +kernel
theorem dX10_loose_0 : decode cX10_loose 0 = .ok (.aload_n 0, 1) := by decide +kernel
theorem dX10_loose_1 : decode cX10_loose 1 = .ok (.iload_n 1, 1) := by decide +kernel
theorem dX10_loose_2 : decode cX10_loose 2 = .ok (.invokevirtual 218, 3) := by decide +kernel
theorem dX10_loose_5 : decode cX10_loose 5 = .ok (.ifCond .eq 10, 3) := by decide +kernel
theorem dX10_loose_8 : decode cX10_loose 8 = .ok (.iload_n 2, 1) := by decide +kernel
theorem dX10_loose_9 : decode cX10_loose 9 = .ok (.invokestatic 110, 3) := by decide +kernel
theorem dX10_loose_12 : decode cX10_loose 12 = .ok (.ifCond .ne 5, 3) := by decide +kernel
theorem dX10_loose_15 : decode cX10_loose 15 = .ok (.iconst (-1), 1) := by decide +kernel
theorem dX10_loose_16 : decode cX10_loose 16 = .ok (.ireturn, 1) := by decide +kernel
theorem dX10_loose_17 : decode cX10_loose 17 = .ok (.iload_n 1, 1) := by decide +kernel
theorem dX10_loose_18 : decode cX10_loose 18 = .ok (.invokestatic 195, 3) := by decide +kernel
theorem dX10_loose_21 : decode cX10_loose 21 = .ok (.istore_n 3, 1) := by decide +kernel
theorem dX10_loose_22 : decode cX10_loose 22 = .ok (.iconst 1, 1) := by decide +kernel
theorem dX10_loose_23 : decode cX10_loose 23 = .ok (.istore 4, 2) := by decide +kernel
theorem dX10_loose_25 : decode cX10_loose 25 = .ok (.iconst 0, 1) := by decide +kernel
theorem dX10_loose_26 : decode cX10_loose 26 = .ok (.istore 5, 2) := by decide +kernel
theorem dX10_loose_28 : decode cX10_loose 28 = .ok (.iload 5, 2) := by decide +kernel
theorem dX10_loose_30 : decode cX10_loose 30 = .ok (.iload_n 3, 1) := by decide +kernel
theorem dX10_loose_31 : decode cX10_loose 31 = .ok (.if_icmp .ge 15, 3) := by decide +kernel
theorem dX10_loose_34 : decode cX10_loose 34 = .ok (.iload 4, 2) := by decide +kernel
theorem dX10_loose_36 : decode cX10_loose 36 = .ok (.iconst 5, 1) := by decide +kernel
theorem dX10_loose_37 : decode cX10_loose 37 = .ok (.imul, 1) := by decide +kernel
theorem dX10_loose_38 : decode cX10_loose 38 = .ok (.istore 4, 2) := by decide +kernel
theorem dX10_loose_40 : decode cX10_loose 40 = .ok (.iinc 5 1, 3) := by decide +kernel
theorem dX10_loose_43 : decode cX10_loose 43 = .ok (.goto (-15), 3) := by decide +kernel
theorem dX10_loose_46 : decode cX10_loose 46 = .ok (.iconst 0, 1) := by decide +kernel
theorem dX10_loose_47 : decode cX10_loose 47 = .ok (.istore 5, 2) := by decide +kernel
theorem dX10_loose_49 : decode cX10_loose 49 = .ok (.ldc_w 261, 3) := by decide +kernel
theorem dX10_loose_52 : decode cX10_loose 52 = .ok (.istore 6, 2) := by decide +kernel
theorem dX10_loose_54 : decode cX10_loose 54 = .ok (.iconst 0, 1) := by decide +kernel
theorem dX10_loose_55 : decode cX10_loose 55 = .ok (.istore 7, 2) := by decide +kernel
theorem dX10_loose_57 : decode cX10_loose 57 = .ok (.iload 7, 2) := by decide +kernel
theorem dX10_loose_59 : decode cX10_loose 59 = .ok (.iload 4, 2) := by decide +kernel
theorem dX10_loose_61 : decode cX10_loose 61 = .ok (.if_icmp .ge 61, 3) := by decide +kernel
theorem dX10_loose_64 : decode cX10_loose 64 = .ok (.aload_n 0, 1) := by decide +kernel
theorem dX10_loose_65 : decode cX10_loose 65 = .ok (.iload_n 1, 1) := by decide +kernel
theorem dX10_loose_66 : decode cX10_loose 66 = .ok (.iload 7, 2) := by decide +kernel
theorem dX10_loose_68 : decode cX10_loose 68 = .ok (.iload_n 3, 1) := by decide +kernel
theorem dX10_loose_69 : decode cX10_loose 69 = .ok (.invokevirtual 265, 3) := by decide +kernel
theorem dX10_loose_72 : decode cX10_loose 72 = .ok (.istore 8, 2) := by decide +kernel
theorem dX10_loose_74 : decode cX10_loose 74 = .ok (.iload 8, 2) := by decide +kernel
theorem dX10_loose_76 : decode cX10_loose 76 = .ok (.ifCond .lt 15, 3) := by decide +kernel
theorem dX10_loose_79 : decode cX10_loose 79 = .ok (.iload 8, 2) := by decide +kernel
theorem dX10_loose_81 : decode cX10_loose 81 = .ok (.iload 6, 2) := by decide +kernel
theorem dX10_loose_83 : decode cX10_loose 83 = .ok (.if_icmp .ge 8, 3) := by decide +kernel
theorem dX10_loose_86 : decode cX10_loose 86 = .ok (.iload 7, 2) := by decide +kernel
theorem dX10_loose_88 : decode cX10_loose 88 = .ok (.goto 5, 3) := by decide +kernel
theorem dX10_loose_91 : decode cX10_loose 91 = .ok (.iload 5, 2) := by decide +kernel
theorem dX10_loose_93 : decode cX10_loose 93 = .ok (.istore 5, 2) := by decide +kernel
theorem dX10_loose_95 : decode cX10_loose 95 = .ok (.iload 8, 2) := by decide +kernel
theorem dX10_loose_97 : decode cX10_loose 97 = .ok (.ifCond .lt 15, 3) := by decide +kernel
theorem dX10_loose_100 : decode cX10_loose 100 = .ok (.iload 8, 2) := by decide +kernel
theorem dX10_loose_102 : decode cX10_loose 102 = .ok (.iload 6, 2) := by decide +kernel
theorem dX10_loose_104 : decode cX10_loose 104 = .ok (.if_icmp .ge 8, 3) := by decide +kernel
theorem dX10_loose_107 : decode cX10_loose 107 = .ok (.iload 8, 2) := by decide +kernel
theorem dX10_loose_109 : decode cX10_loose 109 = .ok (.goto 5, 3) := by decide +kernel
theorem dX10_loose_112 : decode cX10_loose 112 = .ok (.iload 6, 2) := by decide +kernel
theorem dX10_loose_114 : decode cX10_loose 114 = .ok (.istore 6, 2) := by decide +kernel
theorem dX10_loose_116 : decode cX10_loose 116 = .ok (.iinc 7 1, 3) := by decide +kernel
theorem dX10_loose_119 : decode cX10_loose 119 = .ok (.goto (-62), 3) := by decide +kernel
theorem dX10_loose_122 : decode cX10_loose 122 = .ok (.aload_n 0, 1) := by decide +kernel
theorem dX10_loose_123 : decode cX10_loose 123 = .ok (.iload_n 2, 1) := by decide +kernel
theorem dX10_loose_124 : decode cX10_loose 124 = .ok (.iload_n 3, 1) := by decide +kernel
theorem dX10_loose_125 : decode cX10_loose 125 = .ok (.invokevirtual 245, 3) := by decide +kernel
theorem dX10_loose_128 : decode cX10_loose 128 = .ok (.istore 7, 2) := by decide +kernel
theorem dX10_loose_130 : decode cX10_loose 130 = .ok (.iload 5, 2) := by decide +kernel
theorem dX10_loose_132 : decode cX10_loose 132 = .ok (.istore 8, 2) := by decide +kernel
theorem dX10_loose_134 : decode cX10_loose 134 = .ok (.iload_n 3, 1) := by decide +kernel
theorem dX10_loose_135 : decode cX10_loose 135 = .ok (.iconst 1, 1) := by decide +kernel
theorem dX10_loose_136 : decode cX10_loose 136 = .ok (.isub, 1) := by decide +kernel
theorem dX10_loose_137 : decode cX10_loose 137 = .ok (.istore 9, 2) := by decide +kernel
theorem dX10_loose_139 : decode cX10_loose 139 = .ok (.iload 9, 2) := by decide +kernel
theorem dX10_loose_141 : decode cX10_loose 141 = .ok (.ifCond .lt 31, 3) := by decide +kernel
theorem dX10_loose_144 : decode cX10_loose 144 = .ok (.aload_n 0, 1) := by decide +kernel
theorem dX10_loose_145 : decode cX10_loose 145 = .ok (.getfield 41, 3) := by decide +kernel
theorem dX10_loose_148 : decode cX10_loose 148 = .ok (.bipush 40, 2) := by decide +kernel
theorem dX10_loose_150 : decode cX10_loose 150 = .ok (.iload_n 2, 1) := by decide +kernel
theorem dX10_loose_151 : decode cX10_loose 151 = .ok (.imul, 1) := by decide +kernel
theorem dX10_loose_152 : decode cX10_loose 152 = .ok (.iload 9, 2) := by decide +kernel
theorem dX10_loose_154 : decode cX10_loose 154 = .ok (.iadd, 1) := by decide +kernel
theorem dX10_loose_155 : decode cX10_loose 155 = .ok (.iload 8, 2) := by decide +kernel
theorem dX10_loose_157 : decode cX10_loose 157 = .ok (.iconst 5, 1) := by decide +kernel
theorem dX10_loose_158 : decode cX10_loose 158 = .ok (.irem, 1) := by decide +kernel
theorem dX10_loose_159 : decode cX10_loose 159 = .ok (.iastore, 1) := by decide +kernel
theorem dX10_loose_160 : decode cX10_loose 160 = .ok (.iload 8, 2) := by decide +kernel
theorem dX10_loose_162 : decode cX10_loose 162 = .ok (.iconst 5, 1) := by decide +kernel
theorem dX10_loose_163 : decode cX10_loose 163 = .ok (.idiv, 1) := by decide +kernel
theorem dX10_loose_164 : decode cX10_loose 164 = .ok (.istore 8, 2) := by decide +kernel
theorem dX10_loose_166 : decode cX10_loose 166 = .ok (.iinc 9 (-1), 3) := by decide +kernel
theorem dX10_loose_169 : decode cX10_loose 169 = .ok (.goto (-30), 3) := by decide +kernel
theorem dX10_loose_172 : decode cX10_loose 172 = .ok (.iload 6, 2) := by decide +kernel
theorem dX10_loose_174 : decode cX10_loose 174 = .ok (.ireturn, 1) := by decide +kernel
theorem dX10_findGains_0 : decode cX10_findGains 0 = .ok (.aload_n 0, 1) := by decide +kernel
theorem dX10_findGains_1 : decode cX10_findGains 1 = .ok (.invokevirtual 232, 3) := by decide +kernel
theorem dX10_findGains_4 : decode cX10_findGains 4 = .ok (.iconst 0, 1) := by decide +kernel
theorem dX10_findGains_5 : decode cX10_findGains 5 = .ok (.istore_n 1, 1) := by decide +kernel
theorem dX10_findGains_6 : decode cX10_findGains 6 = .ok (.iload_n 1, 1) := by decide +kernel
theorem dX10_findGains_7 : decode cX10_findGains 7 = .ok (.iconst 1, 1) := by decide +kernel
theorem dX10_findGains_8 : decode cX10_findGains 8 = .ok (.aload_n 0, 1) := by decide +kernel
theorem dX10_findGains_9 : decode cX10_findGains 9 = .ok (.getfield 104, 3) := by decide +kernel
theorem dX10_findGains_12 : decode cX10_findGains 12 = .ok (.ishl, 1) := by decide +kernel
theorem dX10_findGains_13 : decode cX10_findGains 13 = .ok (.if_icmp .ge 70, 3) := by decide +kernel
theorem dX10_findGains_16 : decode cX10_findGains 16 = .ok (.aload_n 0, 1) := by decide +kernel
theorem dX10_findGains_17 : decode cX10_findGains 17 = .ok (.iload_n 1, 1) := by decide +kernel
theorem dX10_findGains_18 : decode cX10_findGains 18 = .ok (.invokevirtual 224, 3) := by decide +kernel
theorem dX10_findGains_21 : decode cX10_findGains 21 = .ok (.istore_n 2, 1) := by decide +kernel
theorem dX10_findGains_22 : decode cX10_findGains 22 = .ok (.aload_n 0, 1) := by decide +kernel
theorem dX10_findGains_23 : decode cX10_findGains 23 = .ok (.iload_n 1, 1) := by decide +kernel
theorem dX10_findGains_24 : decode cX10_findGains 24 = .ok (.invokevirtual 224, 3) := by decide +kernel
theorem dX10_findGains_27 : decode cX10_findGains 27 = .ok (.istore_n 2, 1) := by decide +kernel
theorem dX10_findGains_28 : decode cX10_findGains 28 = .ok (.iconst 0, 1) := by decide +kernel
theorem dX10_findGains_29 : decode cX10_findGains 29 = .ok (.istore_n 3, 1) := by decide +kernel
theorem dX10_findGains_30 : decode cX10_findGains 30 = .ok (.iload_n 3, 1) := by decide +kernel
theorem dX10_findGains_31 : decode cX10_findGains 31 = .ok (.aload_n 0, 1) := by decide +kernel
theorem dX10_findGains_32 : decode cX10_findGains 32 = .ok (.getfield 107, 3) := by decide +kernel
theorem dX10_findGains_35 : decode cX10_findGains 35 = .ok (.if_icmp .ge 38, 3) := by decide +kernel
theorem dX10_findGains_38 : decode cX10_findGains 38 = .ok (.aload_n 0, 1) := by decide +kernel
theorem dX10_findGains_39 : decode cX10_findGains 39 = .ok (.getfield 89, 3) := by decide +kernel
theorem dX10_findGains_42 : decode cX10_findGains 42 = .ok (.iconst 4, 1) := by decide +kernel
theorem dX10_findGains_43 : decode cX10_findGains 43 = .ok (.iload_n 1, 1) := by decide +kernel
theorem dX10_findGains_44 : decode cX10_findGains 44 = .ok (.imul, 1) := by decide +kernel
theorem dX10_findGains_45 : decode cX10_findGains 45 = .ok (.iload_n 3, 1) := by decide +kernel
theorem dX10_findGains_46 : decode cX10_findGains 46 = .ok (.iadd, 1) := by decide +kernel
theorem dX10_findGains_47 : decode cX10_findGains 47 = .ok (.aload_n 0, 1) := by decide +kernel
theorem dX10_findGains_48 : decode cX10_findGains 48 = .ok (.getfield 25, 3) := by decide +kernel
theorem dX10_findGains_51 : decode cX10_findGains 51 = .ok (.bipush 12, 2) := by decide +kernel
theorem dX10_findGains_53 : decode cX10_findGains 53 = .ok (.iload_n 3, 1) := by decide +kernel
theorem dX10_findGains_54 : decode cX10_findGains 54 = .ok (.iadd, 1) := by decide +kernel
theorem dX10_findGains_55 : decode cX10_findGains 55 = .ok (.iaload, 1) := by decide +kernel
theorem dX10_findGains_56 : decode cX10_findGains 56 = .ok (.aload_n 0, 1) := by decide +kernel
theorem dX10_findGains_57 : decode cX10_findGains 57 = .ok (.getfield 86, 3) := by decide +kernel
theorem dX10_findGains_60 : decode cX10_findGains 60 = .ok (.bipush 12, 2) := by decide +kernel
theorem dX10_findGains_62 : decode cX10_findGains 62 = .ok (.iload_n 3, 1) := by decide +kernel
theorem dX10_findGains_63 : decode cX10_findGains 63 = .ok (.iadd, 1) := by decide +kernel
theorem dX10_findGains_64 : decode cX10_findGains 64 = .ok (.iaload, 1) := by decide +kernel
theorem dX10_findGains_65 : decode cX10_findGains 65 = .ok (.isub, 1) := by decide +kernel
theorem dX10_findGains_66 : decode cX10_findGains 66 = .ok (.iastore, 1) := by decide +kernel
theorem dX10_findGains_67 : decode cX10_findGains 67 = .ok (.iinc 3 1, 3) := by decide +kernel
theorem dX10_findGains_70 : decode cX10_findGains 70 = .ok (.goto (-40), 3) := by decide +kernel
theorem dX10_findGains_73 : decode cX10_findGains 73 = .ok (.aload_n 0, 1) := by decide +kernel
theorem dX10_findGains_74 : decode cX10_findGains 74 = .ok (.invokevirtual 239, 3) := by decide +kernel
theorem dX10_findGains_77 : decode cX10_findGains 77 = .ok (.iinc 1 1, 3) := by decide +kernel
theorem dX10_findGains_80 : decode cX10_findGains 80 = .ok (.goto (-74), 3) := by decide +kernel
theorem dX10_findGains_83 : decode cX10_findGains 83 = .ok (.return_, 1) := by decide +kernel
theorem dX10_votersFor_0 : decode cX10_votersFor 0 = .ok (.iconst 0, 1) := by decide +kernel
theorem dX10_votersFor_1 : decode cX10_votersFor 1 = .ok (.istore_n 3, 1) := by decide +kernel
theorem dX10_votersFor_2 : decode cX10_votersFor 2 = .ok (.iconst 0, 1) := by decide +kernel
theorem dX10_votersFor_3 : decode cX10_votersFor 3 = .ok (.istore 4, 2) := by decide +kernel
theorem dX10_votersFor_5 : decode cX10_votersFor 5 = .ok (.iload 4, 2) := by decide +kernel
theorem dX10_votersFor_7 : decode cX10_votersFor 7 = .ok (.aload_n 0, 1) := by decide +kernel
theorem dX10_votersFor_8 : decode cX10_votersFor 8 = .ok (.getfield 107, 3) := by decide +kernel
theorem dX10_votersFor_11 : decode cX10_votersFor 11 = .ok (.if_icmp .ge 45, 3) := by decide +kernel
theorem dX10_votersFor_14 : decode cX10_votersFor 14 = .ok (.iload_n 3, 1) := by decide +kernel
theorem dX10_votersFor_15 : decode cX10_votersFor 15 = .ok (.aload_n 0, 1) := by decide +kernel
theorem dX10_votersFor_16 : decode cX10_votersFor 16 = .ok (.getfield 89, 3) := by decide +kernel
theorem dX10_votersFor_19 : decode cX10_votersFor 19 = .ok (.iconst 4, 1) := by decide +kernel
theorem dX10_votersFor_20 : decode cX10_votersFor 20 = .ok (.iload_n 1, 1) := by decide +kernel
theorem dX10_votersFor_21 : decode cX10_votersFor 21 = .ok (.imul, 1) := by decide +kernel
theorem dX10_votersFor_22 : decode cX10_votersFor 22 = .ok (.iload 4, 2) := by decide +kernel
theorem dX10_votersFor_24 : decode cX10_votersFor 24 = .ok (.iadd, 1) := by decide +kernel
theorem dX10_votersFor_25 : decode cX10_votersFor 25 = .ok (.iaload, 1) := by decide +kernel
theorem dX10_votersFor_26 : decode cX10_votersFor 26 = .ok (.aload_n 0, 1) := by decide +kernel
theorem dX10_votersFor_27 : decode cX10_votersFor 27 = .ok (.getfield 89, 3) := by decide +kernel
theorem dX10_votersFor_30 : decode cX10_votersFor 30 = .ok (.iconst 4, 1) := by decide +kernel
theorem dX10_votersFor_31 : decode cX10_votersFor 31 = .ok (.iload_n 2, 1) := by decide +kernel
theorem dX10_votersFor_32 : decode cX10_votersFor 32 = .ok (.imul, 1) := by decide +kernel
theorem dX10_votersFor_33 : decode cX10_votersFor 33 = .ok (.iload 4, 2) := by decide +kernel
theorem dX10_votersFor_35 : decode cX10_votersFor 35 = .ok (.iadd, 1) := by decide +kernel
theorem dX10_votersFor_36 : decode cX10_votersFor 36 = .ok (.iaload, 1) := by decide +kernel
theorem dX10_votersFor_37 : decode cX10_votersFor 37 = .ok (.if_icmp .le 10, 3) := by decide +kernel
theorem dX10_votersFor_40 : decode cX10_votersFor 40 = .ok (.iconst 1, 1) := by decide +kernel
theorem dX10_votersFor_41 : decode cX10_votersFor 41 = .ok (.iload 4, 2) := by decide +kernel
theorem dX10_votersFor_43 : decode cX10_votersFor 43 = .ok (.ishl, 1) := by decide +kernel
theorem dX10_votersFor_44 : decode cX10_votersFor 44 = .ok (.goto 4, 3) := by decide +kernel
theorem dX10_votersFor_47 : decode cX10_votersFor 47 = .ok (.iconst 0, 1) := by decide +kernel
theorem dX10_votersFor_48 : decode cX10_votersFor 48 = .ok (.ior, 1) := by decide +kernel
theorem dX10_votersFor_49 : decode cX10_votersFor 49 = .ok (.istore_n 3, 1) := by decide +kernel
theorem dX10_votersFor_50 : decode cX10_votersFor 50 = .ok (.iinc 4 1, 3) := by decide +kernel
theorem dX10_votersFor_53 : decode cX10_votersFor 53 = .ok (.goto (-48), 3) := by decide +kernel
theorem dX10_votersFor_56 : decode cX10_votersFor 56 = .ok (.iload_n 3, 1) := by decide +kernel
theorem dX10_votersFor_57 : decode cX10_votersFor 57 = .ok (.ireturn, 1) := by decide +kernel
theorem dX10_votes_0 : decode cX10_votes 0 = .ok (.aload_n 0, 1) := by decide +kernel
theorem dX10_votes_1 : decode cX10_votes 1 = .ok (.iload_n 1, 1) := by decide +kernel
theorem dX10_votes_2 : decode cX10_votes 2 = .ok (.invokevirtual 218, 3) := by decide +kernel
theorem dX10_votes_5 : decode cX10_votes 5 = .ok (.ifCond .eq 11, 3) := by decide +kernel
theorem dX10_votes_8 : decode cX10_votes 8 = .ok (.aload_n 0, 1) := by decide +kernel
theorem dX10_votes_9 : decode cX10_votes 9 = .ok (.iload_n 2, 1) := by decide +kernel
theorem dX10_votes_10 : decode cX10_votes 10 = .ok (.invokevirtual 218, 3) := by decide +kernel
theorem dX10_votes_13 : decode cX10_votes 13 = .ok (.ifCond .ne 5, 3) := by decide +kernel
theorem dX10_votes_16 : decode cX10_votes 16 = .ok (.iconst (-1), 1) := by decide +kernel
theorem dX10_votes_17 : decode cX10_votes 17 = .ok (.ireturn, 1) := by decide +kernel
theorem dX10_votes_18 : decode cX10_votes 18 = .ok (.aload_n 0, 1) := by decide +kernel
theorem dX10_votes_19 : decode cX10_votes 19 = .ok (.getfield 104, 3) := by decide +kernel
theorem dX10_votes_22 : decode cX10_votes 22 = .ok (.ifCond .ne 6, 3) := by decide +kernel
theorem dX10_votes_25 : decode cX10_votes 25 = .ok (.bipush (-4), 2) := by decide +kernel
theorem dX10_votes_27 : decode cX10_votes 27 = .ok (.ireturn, 1) := by decide +kernel
theorem dX10_votes_28 : decode cX10_votes 28 = .ok (.aload_n 0, 1) := by decide +kernel
theorem dX10_votes_29 : decode cX10_votes 29 = .ok (.invokevirtual 268, 3) := by decide +kernel
theorem dX10_votes_32 : decode cX10_votes 32 = .ok (.aload_n 0, 1) := by decide +kernel
theorem dX10_votes_33 : decode cX10_votes 33 = .ok (.aload_n 0, 1) := by decide +kernel
theorem dX10_votes_34 : decode cX10_votes 34 = .ok (.iload_n 1, 1) := by decide +kernel
theorem dX10_votes_35 : decode cX10_votes 35 = .ok (.iload_n 2, 1) := by decide +kernel
theorem dX10_votes_36 : decode cX10_votes 36 = .ok (.invokevirtual 271, 3) := by decide +kernel
theorem dX10_votes_39 : decode cX10_votes 39 = .ok (.putfield 118, 3) := by decide +kernel
theorem dX10_votes_42 : decode cX10_votes 42 = .ok (.aload_n 0, 1) := by decide +kernel
theorem dX10_votes_43 : decode cX10_votes 43 = .ok (.getfield 118, 3) := by decide +kernel
theorem dX10_votes_46 : decode cX10_votes 46 = .ok (.invokestatic 195, 3) := by decide +kernel
theorem dX10_votes_49 : decode cX10_votes 49 = .ok (.ireturn, 1) := by decide +kernel
theorem dX10_choice_0 : decode cX10_choice 0 = .ok (.aload_n 0, 1) := by decide +kernel
theorem dX10_choice_1 : decode cX10_choice 1 = .ok (.getfield 104, 3) := by decide +kernel
theorem dX10_choice_4 : decode cX10_choice 4 = .ok (.ifCond .ne 6, 3) := by decide +kernel
theorem dX10_choice_7 : decode cX10_choice 7 = .ok (.bipush (-4), 2) := by decide +kernel
theorem dX10_choice_9 : decode cX10_choice 9 = .ok (.ireturn, 1) := by decide +kernel
theorem dX10_choice_10 : decode cX10_choice 10 = .ok (.aload_n 0, 1) := by decide +kernel
theorem dX10_choice_11 : decode cX10_choice 11 = .ok (.invokevirtual 268, 3) := by decide +kernel
theorem dX10_choice_14 : decode cX10_choice 14 = .ok (.iconst 0, 1) := by decide +kernel
theorem dX10_choice_15 : decode cX10_choice 15 = .ok (.istore_n 1, 1) := by decide +kernel
theorem dX10_choice_16 : decode cX10_choice 16 = .ok (.iload_n 1, 1) := by decide +kernel
theorem dX10_choice_17 : decode cX10_choice 17 = .ok (.iconst 1, 1) := by decide +kernel
theorem dX10_choice_18 : decode cX10_choice 18 = .ok (.aload_n 0, 1) := by decide +kernel
theorem dX10_choice_19 : decode cX10_choice 19 = .ok (.getfield 104, 3) := by decide +kernel
theorem dX10_choice_22 : decode cX10_choice 22 = .ok (.ishl, 1) := by decide +kernel
theorem dX10_choice_23 : decode cX10_choice 23 = .ok (.if_icmp .ge 66, 3) := by decide +kernel
theorem dX10_choice_26 : decode cX10_choice 26 = .ok (.iconst 1, 1) := by decide +kernel
theorem dX10_choice_27 : decode cX10_choice 27 = .ok (.istore_n 2, 1) := by decide +kernel
theorem dX10_choice_28 : decode cX10_choice 28 = .ok (.iconst 0, 1) := by decide +kernel
theorem dX10_choice_29 : decode cX10_choice 29 = .ok (.istore_n 3, 1) := by decide +kernel
theorem dX10_choice_30 : decode cX10_choice 30 = .ok (.iload_n 3, 1) := by decide +kernel
theorem dX10_choice_31 : decode cX10_choice 31 = .ok (.iconst 1, 1) := by decide +kernel
theorem dX10_choice_32 : decode cX10_choice 32 = .ok (.aload_n 0, 1) := by decide +kernel
theorem dX10_choice_33 : decode cX10_choice 33 = .ok (.getfield 104, 3) := by decide +kernel
theorem dX10_choice_36 : decode cX10_choice 36 = .ok (.ishl, 1) := by decide +kernel
theorem dX10_choice_37 : decode cX10_choice 37 = .ok (.if_icmp .ge 40, 3) := by decide +kernel
theorem dX10_choice_40 : decode cX10_choice 40 = .ok (.iload_n 2, 1) := by decide +kernel
theorem dX10_choice_41 : decode cX10_choice 41 = .ok (.ifCond .eq 28, 3) := by decide +kernel
theorem dX10_choice_44 : decode cX10_choice 44 = .ok (.aload_n 0, 1) := by decide +kernel
theorem dX10_choice_45 : decode cX10_choice 45 = .ok (.iload_n 3, 1) := by decide +kernel
theorem dX10_choice_46 : decode cX10_choice 46 = .ok (.iload_n 1, 1) := by decide +kernel
theorem dX10_choice_47 : decode cX10_choice 47 = .ok (.invokevirtual 271, 3) := by decide +kernel
theorem dX10_choice_50 : decode cX10_choice 50 = .ok (.invokestatic 195, 3) := by decide +kernel
theorem dX10_choice_53 : decode cX10_choice 53 = .ok (.aload_n 0, 1) := by decide +kernel
theorem dX10_choice_54 : decode cX10_choice 54 = .ok (.iload_n 1, 1) := by decide +kernel
theorem dX10_choice_55 : decode cX10_choice 55 = .ok (.iload_n 3, 1) := by decide +kernel
theorem dX10_choice_56 : decode cX10_choice 56 = .ok (.invokevirtual 271, 3) := by decide +kernel
theorem dX10_choice_59 : decode cX10_choice 59 = .ok (.invokestatic 195, 3) := by decide +kernel
theorem dX10_choice_62 : decode cX10_choice 62 = .ok (.if_icmp .gt 7, 3) := by decide +kernel
theorem dX10_choice_65 : decode cX10_choice 65 = .ok (.iconst 1, 1) := by decide +kernel
theorem dX10_choice_66 : decode cX10_choice 66 = .ok (.goto 4, 3) := by decide +kernel
theorem dX10_choice_69 : decode cX10_choice 69 = .ok (.iconst 0, 1) := by decide +kernel
theorem dX10_choice_70 : decode cX10_choice 70 = .ok (.istore_n 2, 1) := by decide +kernel
theorem dX10_choice_71 : decode cX10_choice 71 = .ok (.iinc 3 1, 3) := by decide +kernel
theorem dX10_choice_74 : decode cX10_choice 74 = .ok (.goto (-44), 3) := by decide +kernel
theorem dX10_choice_77 : decode cX10_choice 77 = .ok (.iload_n 2, 1) := by decide +kernel
theorem dX10_choice_78 : decode cX10_choice 78 = .ok (.ifCond .eq 5, 3) := by decide +kernel
theorem dX10_choice_81 : decode cX10_choice 81 = .ok (.iload_n 1, 1) := by decide +kernel
theorem dX10_choice_82 : decode cX10_choice 82 = .ok (.ireturn, 1) := by decide +kernel
theorem dX10_choice_83 : decode cX10_choice 83 = .ok (.iinc 1 1, 3) := by decide +kernel
theorem dX10_choice_86 : decode cX10_choice 86 = .ok (.goto (-70), 3) := by decide +kernel
theorem dX10_choice_89 : decode cX10_choice 89 = .ok (.bipush (-9), 2) := by decide +kernel
theorem dX10_choice_91 : decode cX10_choice 91 = .ok (.ireturn, 1) := by decide +kernel
theorem dX10_mostOf_0 : decode cX10_mostOf 0 = .ok (.iconst 0, 1) := by decide +kernel
theorem dX10_mostOf_1 : decode cX10_mostOf 1 = .ok (.istore_n 2, 1) := by decide +kernel
theorem dX10_mostOf_2 : decode cX10_mostOf 2 = .ok (.iconst 0, 1) := by decide +kernel
theorem dX10_mostOf_3 : decode cX10_mostOf 3 = .ok (.istore_n 3, 1) := by decide +kernel
theorem dX10_mostOf_4 : decode cX10_mostOf 4 = .ok (.iload_n 3, 1) := by decide +kernel
theorem dX10_mostOf_5 : decode cX10_mostOf 5 = .ok (.iconst 1, 1) := by decide +kernel
theorem dX10_mostOf_6 : decode cX10_mostOf 6 = .ok (.aload_n 0, 1) := by decide +kernel
theorem dX10_mostOf_7 : decode cX10_mostOf 7 = .ok (.getfield 104, 3) := by decide +kernel
theorem dX10_mostOf_10 : decode cX10_mostOf 10 = .ok (.ishl, 1) := by decide +kernel
theorem dX10_mostOf_11 : decode cX10_mostOf 11 = .ok (.if_icmp .ge 72, 3) := by decide +kernel
theorem dX10_mostOf_14 : decode cX10_mostOf 14 = .ok (.iconst 0, 1) := by decide +kernel
theorem dX10_mostOf_15 : decode cX10_mostOf 15 = .ok (.istore 4, 2) := by decide +kernel
theorem dX10_mostOf_17 : decode cX10_mostOf 17 = .ok (.iconst 0, 1) := by decide +kernel
theorem dX10_mostOf_18 : decode cX10_mostOf 18 = .ok (.istore 5, 2) := by decide +kernel
theorem dX10_mostOf_20 : decode cX10_mostOf 20 = .ok (.iload 5, 2) := by decide +kernel
theorem dX10_mostOf_22 : decode cX10_mostOf 22 = .ok (.aload_n 0, 1) := by decide +kernel
theorem dX10_mostOf_23 : decode cX10_mostOf 23 = .ok (.getfield 107, 3) := by decide +kernel
theorem dX10_mostOf_26 : decode cX10_mostOf 26 = .ok (.if_icmp .ge 38, 3) := by decide +kernel
theorem dX10_mostOf_29 : decode cX10_mostOf 29 = .ok (.iload 4, 2) := by decide +kernel
theorem dX10_mostOf_31 : decode cX10_mostOf 31 = .ok (.iload_n 1, 1) := by decide +kernel
theorem dX10_mostOf_32 : decode cX10_mostOf 32 = .ok (.iload 5, 2) := by decide +kernel
theorem dX10_mostOf_34 : decode cX10_mostOf 34 = .ok (.invokestatic 179, 3) := by decide +kernel
theorem dX10_mostOf_37 : decode cX10_mostOf 37 = .ok (.ifCond .eq 17, 3) := by decide +kernel
theorem dX10_mostOf_40 : decode cX10_mostOf 40 = .ok (.aload_n 0, 1) := by decide +kernel
theorem dX10_mostOf_41 : decode cX10_mostOf 41 = .ok (.getfield 89, 3) := by decide +kernel
theorem dX10_mostOf_44 : decode cX10_mostOf 44 = .ok (.iconst 4, 1) := by decide +kernel
theorem dX10_mostOf_45 : decode cX10_mostOf 45 = .ok (.iload_n 3, 1) := by decide +kernel
theorem dX10_mostOf_46 : decode cX10_mostOf 46 = .ok (.imul, 1) := by decide +kernel
theorem dX10_mostOf_47 : decode cX10_mostOf 47 = .ok (.iload 5, 2) := by decide +kernel
theorem dX10_mostOf_49 : decode cX10_mostOf 49 = .ok (.iadd, 1) := by decide +kernel
theorem dX10_mostOf_50 : decode cX10_mostOf 50 = .ok (.iaload, 1) := by decide +kernel
theorem dX10_mostOf_51 : decode cX10_mostOf 51 = .ok (.goto 4, 3) := by decide +kernel
theorem dX10_mostOf_54 : decode cX10_mostOf 54 = .ok (.iconst 0, 1) := by decide +kernel
theorem dX10_mostOf_55 : decode cX10_mostOf 55 = .ok (.iadd, 1) := by decide +kernel
theorem dX10_mostOf_56 : decode cX10_mostOf 56 = .ok (.istore 4, 2) := by decide +kernel
theorem dX10_mostOf_58 : decode cX10_mostOf 58 = .ok (.iinc 5 1, 3) := by decide +kernel
theorem dX10_mostOf_61 : decode cX10_mostOf 61 = .ok (.goto (-41), 3) := by decide +kernel
theorem dX10_mostOf_64 : decode cX10_mostOf 64 = .ok (.iload 4, 2) := by decide +kernel
theorem dX10_mostOf_66 : decode cX10_mostOf 66 = .ok (.iload_n 2, 1) := by decide +kernel
theorem dX10_mostOf_67 : decode cX10_mostOf 67 = .ok (.if_icmp .le 8, 3) := by decide +kernel
theorem dX10_mostOf_70 : decode cX10_mostOf 70 = .ok (.iload 4, 2) := by decide +kernel
theorem dX10_mostOf_72 : decode cX10_mostOf 72 = .ok (.goto 4, 3) := by decide +kernel
theorem dX10_mostOf_75 : decode cX10_mostOf 75 = .ok (.iload_n 2, 1) := by decide +kernel
theorem dX10_mostOf_76 : decode cX10_mostOf 76 = .ok (.istore_n 2, 1) := by decide +kernel
theorem dX10_mostOf_77 : decode cX10_mostOf 77 = .ok (.iinc 3 1, 3) := by decide +kernel
theorem dX10_mostOf_80 : decode cX10_mostOf 80 = .ok (.goto (-76), 3) := by decide +kernel
theorem dX10_mostOf_83 : decode cX10_mostOf 83 = .ok (.iload_n 2, 1) := by decide +kernel
theorem dX10_mostOf_84 : decode cX10_mostOf 84 = .ok (.ireturn, 1) := by decide +kernel
theorem dX10_parts_0 : decode cX10_parts 0 = .ok (.iload_n 1, 1) := by decide +kernel
theorem dX10_parts_1 : decode cX10_parts 1 = .ok (.invokestatic 110, 3) := by decide +kernel
theorem dX10_parts_4 : decode cX10_parts 4 = .ok (.ifCond .ne 5, 3) := by decide +kernel
theorem dX10_parts_7 : decode cX10_parts 7 = .ok (.iconst (-1), 1) := by decide +kernel
theorem dX10_parts_8 : decode cX10_parts 8 = .ok (.ireturn, 1) := by decide +kernel
theorem dX10_parts_9 : decode cX10_parts 9 = .ok (.aload_n 0, 1) := by decide +kernel
theorem dX10_parts_10 : decode cX10_parts 10 = .ok (.getfield 104, 3) := by decide +kernel
theorem dX10_parts_13 : decode cX10_parts 13 = .ok (.ifCond .ne 6, 3) := by decide +kernel
theorem dX10_parts_16 : decode cX10_parts 16 = .ok (.bipush (-4), 2) := by decide +kernel
theorem dX10_parts_18 : decode cX10_parts 18 = .ok (.ireturn, 1) := by decide +kernel
theorem dX10_parts_19 : decode cX10_parts 19 = .ok (.aload_n 0, 1) := by decide +kernel
theorem dX10_parts_20 : decode cX10_parts 20 = .ok (.getfield 38, 3) := by decide +kernel
theorem dX10_parts_23 : decode cX10_parts 23 = .ok (.iload_n 1, 1) := by decide +kernel
theorem dX10_parts_24 : decode cX10_parts 24 = .ok (.iaload, 1) := by decide +kernel
theorem dX10_parts_25 : decode cX10_parts 25 = .ok (.ifCond .ge 9, 3) := by decide +kernel
theorem dX10_parts_28 : decode cX10_parts 28 = .ok (.aload_n 0, 1) := by decide +kernel
theorem dX10_parts_29 : decode cX10_parts 29 = .ok (.iconst 1, 1) := by decide +kernel
theorem dX10_parts_30 : decode cX10_parts 30 = .ok (.invokevirtual 114, 3) := by decide +kernel
theorem dX10_parts_33 : decode cX10_parts 33 = .ok (.ireturn, 1) := by decide +kernel
theorem dX10_parts_34 : decode cX10_parts 34 = .ok (.aload_n 0, 1) := by decide +kernel
theorem dX10_parts_35 : decode cX10_parts 35 = .ok (.getfield 38, 3) := by decide +kernel
theorem dX10_parts_38 : decode cX10_parts 38 = .ok (.iload_n 1, 1) := by decide +kernel
theorem dX10_parts_39 : decode cX10_parts 39 = .ok (.iaload, 1) := by decide +kernel
theorem dX10_parts_40 : decode cX10_parts 40 = .ok (.aload_n 0, 1) := by decide +kernel
theorem dX10_parts_41 : decode cX10_parts 41 = .ok (.getfield 107, 3) := by decide +kernel
theorem dX10_parts_44 : decode cX10_parts 44 = .ok (.if_icmp .eq 9, 3) := by decide +kernel
theorem dX10_parts_47 : decode cX10_parts 47 = .ok (.aload_n 0, 1) := by decide +kernel
theorem dX10_parts_48 : decode cX10_parts 48 = .ok (.iconst 5, 1) := by decide +kernel
theorem dX10_parts_49 : decode cX10_parts 49 = .ok (.invokevirtual 114, 3) := by decide +kernel
theorem dX10_parts_52 : decode cX10_parts 52 = .ok (.ireturn, 1) := by decide +kernel
theorem dX10_parts_53 : decode cX10_parts 53 = .ok (.aload_n 0, 1) := by decide +kernel
theorem dX10_parts_54 : decode cX10_parts 54 = .ok (.invokevirtual 268, 3) := by decide +kernel
theorem dX10_parts_57 : decode cX10_parts 57 = .ok (.aload_n 0, 1) := by decide +kernel
theorem dX10_parts_58 : decode cX10_parts 58 = .ok (.bipush (-9), 2) := by decide +kernel
theorem dX10_parts_60 : decode cX10_parts 60 = .ok (.putfield 118, 3) := by decide +kernel
theorem dX10_parts_63 : decode cX10_parts 63 = .ok (.iconst 0, 1) := by decide +kernel
theorem dX10_parts_64 : decode cX10_parts 64 = .ok (.istore_n 2, 1) := by decide +kernel
theorem dX10_parts_65 : decode cX10_parts 65 = .ok (.iload_n 2, 1) := by decide +kernel
theorem dX10_parts_66 : decode cX10_parts 66 = .ok (.iconst 1, 1) := by decide +kernel
theorem dX10_parts_67 : decode cX10_parts 67 = .ok (.aload_n 0, 1) := by decide +kernel
theorem dX10_parts_68 : decode cX10_parts 68 = .ok (.getfield 107, 3) := by decide +kernel
theorem dX10_parts_71 : decode cX10_parts 71 = .ok (.ishl, 1) := by decide +kernel
theorem dX10_parts_72 : decode cX10_parts 72 = .ok (.if_icmp .ge 86, 3) := by decide +kernel
theorem dX10_parts_75 : decode cX10_parts 75 = .ok (.aload_n 0, 1) := by decide +kernel
theorem dX10_parts_76 : decode cX10_parts 76 = .ok (.getfield 118, 3) := by decide +kernel
theorem dX10_parts_79 : decode cX10_parts 79 = .ok (.ifCond .ge 79, 3) := by decide +kernel
theorem dX10_parts_82 : decode cX10_parts 82 = .ok (.lconst 0, 1) := by decide +kernel
theorem dX10_parts_83 : decode cX10_parts 83 = .ok (.lstore_n 3, 1) := by decide +kernel
theorem dX10_parts_84 : decode cX10_parts 84 = .ok (.iconst 0, 1) := by decide +kernel
theorem dX10_parts_85 : decode cX10_parts 85 = .ok (.istore 5, 2) := by decide +kernel
theorem dX10_parts_87 : decode cX10_parts 87 = .ok (.iload 5, 2) := by decide +kernel
theorem dX10_parts_89 : decode cX10_parts 89 = .ok (.aload_n 0, 1) := by decide +kernel
theorem dX10_parts_90 : decode cX10_parts 90 = .ok (.getfield 107, 3) := by decide +kernel
theorem dX10_parts_93 : decode cX10_parts 93 = .ok (.if_icmp .ge 38, 3) := by decide +kernel
theorem dX10_parts_96 : decode cX10_parts 96 = .ok (.lload_n 3, 1) := by decide +kernel
theorem dX10_parts_97 : decode cX10_parts 97 = .ok (.iload_n 2, 1) := by decide +kernel
theorem dX10_parts_98 : decode cX10_parts 98 = .ok (.iload 5, 2) := by decide +kernel
theorem dX10_parts_100 : decode cX10_parts 100 = .ok (.invokestatic 179, 3) := by decide +kernel
theorem dX10_parts_103 : decode cX10_parts 103 = .ok (.ifCond .eq 19, 3) := by decide +kernel
theorem dX10_parts_106 : decode cX10_parts 106 = .ok (.aload_n 0, 1) := by decide +kernel
theorem dX10_parts_107 : decode cX10_parts 107 = .ok (.getfield 41, 3) := by decide +kernel
theorem dX10_parts_110 : decode cX10_parts 110 = .ok (.bipush 40, 2) := by decide +kernel
theorem dX10_parts_112 : decode cX10_parts 112 = .ok (.iload_n 1, 1) := by decide +kernel
theorem dX10_parts_113 : decode cX10_parts 113 = .ok (.imul, 1) := by decide +kernel
theorem dX10_parts_114 : decode cX10_parts 114 = .ok (.iload 5, 2) := by decide +kernel
theorem dX10_parts_116 : decode cX10_parts 116 = .ok (.iadd, 1) := by decide +kernel
theorem dX10_parts_117 : decode cX10_parts 117 = .ok (.iaload, 1) := by decide +kernel
theorem dX10_parts_118 : decode cX10_parts 118 = .ok (.i2l, 1) := by decide +kernel
theorem dX10_parts_119 : decode cX10_parts 119 = .ok (.goto 4, 3) := by decide +kernel
theorem dX10_parts_122 : decode cX10_parts 122 = .ok (.lconst 0, 1) := by decide +kernel
theorem dX10_parts_123 : decode cX10_parts 123 = .ok (.ladd, 1) := by decide +kernel
theorem dX10_parts_124 : decode cX10_parts 124 = .ok (.lstore_n 3, 1) := by decide +kernel
theorem dX10_parts_125 : decode cX10_parts 125 = .ok (.iinc 5 1, 3) := by decide +kernel
theorem dX10_parts_128 : decode cX10_parts 128 = .ok (.goto (-41), 3) := by decide +kernel
theorem dX10_parts_131 : decode cX10_parts 131 = .ok (.aload_n 0, 1) := by decide +kernel
theorem dX10_parts_132 : decode cX10_parts 132 = .ok (.lload_n 3, 1) := by decide +kernel
theorem dX10_parts_133 : decode cX10_parts 133 = .ok (.aload_n 0, 1) := by decide +kernel
theorem dX10_parts_134 : decode cX10_parts 134 = .ok (.iload_n 2, 1) := by decide +kernel
theorem dX10_parts_135 : decode cX10_parts 135 = .ok (.invokevirtual 274, 3) := by decide +kernel
theorem dX10_parts_138 : decode cX10_parts 138 = .ok (.i2l, 1) := by decide +kernel
theorem dX10_parts_139 : decode cX10_parts 139 = .ok (.lcmp, 1) := by decide +kernel
theorem dX10_parts_140 : decode cX10_parts 140 = .ok (.ifCond .ge 7, 3) := by decide +kernel
theorem dX10_parts_143 : decode cX10_parts 143 = .ok (.iload_n 2, 1) := by decide +kernel
theorem dX10_parts_144 : decode cX10_parts 144 = .ok (.goto 5, 3) := by decide +kernel
theorem dX10_parts_147 : decode cX10_parts 147 = .ok (.bipush (-9), 2) := by decide +kernel
theorem dX10_parts_149 : decode cX10_parts 149 = .ok (.putfield 118, 3) := by decide +kernel
theorem dX10_parts_152 : decode cX10_parts 152 = .ok (.iinc 2 1, 3) := by decide +kernel
theorem dX10_parts_155 : decode cX10_parts 155 = .ok (.goto (-90), 3) := by decide +kernel
theorem dX10_parts_158 : decode cX10_parts 158 = .ok (.aload_n 0, 1) := by decide +kernel
theorem dX10_parts_159 : decode cX10_parts 159 = .ok (.getfield 118, 3) := by decide +kernel
theorem dX10_parts_162 : decode cX10_parts 162 = .ok (.ifCond .ge 7, 3) := by decide +kernel
theorem dX10_parts_165 : decode cX10_parts 165 = .ok (.iconst 1, 1) := by decide +kernel
theorem dX10_parts_166 : decode cX10_parts 166 = .ok (.goto 4, 3) := by decide +kernel
theorem dX10_parts_169 : decode cX10_parts 169 = .ok (.iconst 0, 1) := by decide +kernel
theorem dX10_parts_170 : decode cX10_parts 170 = .ok (.ireturn, 1) := by decide +kernel
theorem dX10_seenRefused_0 : decode cX10_seenRefused 0 = .ok (.aload_n 0, 1) := by decide +kernel
theorem dX10_seenRefused_1 : decode cX10_seenRefused 1 = .ok (.getfield 104, 3) := by decide +kernel
theorem dX10_seenRefused_4 : decode cX10_seenRefused 4 = .ok (.ifCond .ne 6, 3) := by decide +kernel
theorem dX10_seenRefused_7 : decode cX10_seenRefused 7 = .ok (.bipush (-4), 2) := by decide +kernel
theorem dX10_seenRefused_9 : decode cX10_seenRefused 9 = .ok (.ireturn, 1) := by decide +kernel
theorem dX10_seenRefused_10 : decode cX10_seenRefused 10 = .ok (.aload_n 0, 1) := by decide +kernel
theorem dX10_seenRefused_11 : decode cX10_seenRefused 11 = .ok (.getfield 38, 3) := by decide +kernel
theorem dX10_seenRefused_14 : decode cX10_seenRefused 14 = .ok (.iload_n 1, 1) := by decide +kernel
theorem dX10_seenRefused_15 : decode cX10_seenRefused 15 = .ok (.iaload, 1) := by decide +kernel
theorem dX10_seenRefused_16 : decode cX10_seenRefused 16 = .ok (.ifCond .ge 9, 3) := by decide +kernel
theorem dX10_seenRefused_19 : decode cX10_seenRefused 19 = .ok (.aload_n 0, 1) := by decide +kernel
theorem dX10_seenRefused_20 : decode cX10_seenRefused 20 = .ok (.iconst 1, 1) := by decide +kernel
theorem dX10_seenRefused_21 : decode cX10_seenRefused 21 = .ok (.invokevirtual 114, 3) := by decide +kernel
theorem dX10_seenRefused_24 : decode cX10_seenRefused 24 = .ok (.ireturn, 1) := by decide +kernel
theorem dX10_seenRefused_25 : decode cX10_seenRefused 25 = .ok (.aload_n 0, 1) := by decide +kernel
theorem dX10_seenRefused_26 : decode cX10_seenRefused 26 = .ok (.getfield 38, 3) := by decide +kernel
theorem dX10_seenRefused_29 : decode cX10_seenRefused 29 = .ok (.iload_n 1, 1) := by decide +kernel
theorem dX10_seenRefused_30 : decode cX10_seenRefused 30 = .ok (.iaload, 1) := by decide +kernel
theorem dX10_seenRefused_31 : decode cX10_seenRefused 31 = .ok (.iconst 3, 1) := by decide +kernel
theorem dX10_seenRefused_32 : decode cX10_seenRefused 32 = .ok (.if_icmp .le 11, 3) := by decide +kernel
theorem dX10_seenRefused_35 : decode cX10_seenRefused 35 = .ok (.aload_n 0, 1) := by decide +kernel
theorem dX10_seenRefused_36 : decode cX10_seenRefused 36 = .ok (.iconst 5, 1) := by decide +kernel
theorem dX10_seenRefused_37 : decode cX10_seenRefused 37 = .ok (.invokevirtual 114, 3) := by decide +kernel
theorem dX10_seenRefused_40 : decode cX10_seenRefused 40 = .ok (.goto 4, 3) := by decide +kernel
theorem dX10_seenRefused_43 : decode cX10_seenRefused 43 = .ok (.iconst 0, 1) := by decide +kernel
theorem dX10_seenRefused_44 : decode cX10_seenRefused 44 = .ok (.ireturn, 1) := by decide +kernel
theorem dX10_isSo_0 : decode cX10_isSo 0 = .ok (.aload_n 0, 1) := by decide +kernel
theorem dX10_isSo_1 : decode cX10_isSo 1 = .ok (.getfield 38, 3) := by decide +kernel
theorem dX10_isSo_4 : decode cX10_isSo 4 = .ok (.iload_n 2, 1) := by decide +kernel
theorem dX10_isSo_5 : decode cX10_isSo 5 = .ok (.iaload, 1) := by decide +kernel
theorem dX10_isSo_6 : decode cX10_isSo 6 = .ok (.istore 4, 2) := by decide +kernel
theorem dX10_isSo_8 : decode cX10_isSo 8 = .ok (.iconst 1, 1) := by decide +kernel
theorem dX10_isSo_9 : decode cX10_isSo 9 = .ok (.istore 5, 2) := by decide +kernel
theorem dX10_isSo_11 : decode cX10_isSo 11 = .ok (.iconst 0, 1) := by decide +kernel
theorem dX10_isSo_12 : decode cX10_isSo 12 = .ok (.istore 6, 2) := by decide +kernel
theorem dX10_isSo_14 : decode cX10_isSo 14 = .ok (.iload 6, 2) := by decide +kernel
theorem dX10_isSo_16 : decode cX10_isSo 16 = .ok (.iload 4, 2) := by decide +kernel
theorem dX10_isSo_18 : decode cX10_isSo 18 = .ok (.if_icmp .ge 70, 3) := by decide +kernel
theorem dX10_isSo_21 : decode cX10_isSo 21 = .ok (.iload 5, 2) := by decide +kernel
theorem dX10_isSo_23 : decode cX10_isSo 23 = .ok (.ifCond .eq 65, 3) := by decide +kernel
theorem dX10_isSo_26 : decode cX10_isSo 26 = .ok (.aload_n 0, 1) := by decide +kernel
theorem dX10_isSo_27 : decode cX10_isSo 27 = .ok (.iload_n 3, 1) := by decide +kernel
theorem dX10_isSo_28 : decode cX10_isSo 28 = .ok (.iload 4, 2) := by decide +kernel
theorem dX10_isSo_30 : decode cX10_isSo 30 = .ok (.iload 6, 2) := by decide +kernel
theorem dX10_isSo_32 : decode cX10_isSo 32 = .ok (.invokevirtual 248, 3) := by decide +kernel
theorem dX10_isSo_35 : decode cX10_isSo 35 = .ok (.istore 7, 2) := by decide +kernel
theorem dX10_isSo_37 : decode cX10_isSo 37 = .ok (.aload_n 0, 1) := by decide +kernel
theorem dX10_isSo_38 : decode cX10_isSo 38 = .ok (.iload 7, 2) := by decide +kernel
theorem dX10_isSo_40 : decode cX10_isSo 40 = .ok (.invokevirtual 224, 3) := by decide +kernel
theorem dX10_isSo_43 : decode cX10_isSo 43 = .ok (.istore 8, 2) := by decide +kernel
theorem dX10_isSo_45 : decode cX10_isSo 45 = .ok (.iload 7, 2) := by decide +kernel
theorem dX10_isSo_47 : decode cX10_isSo 47 = .ok (.iload_n 1, 1) := by decide +kernel
theorem dX10_isSo_48 : decode cX10_isSo 48 = .ok (.iconst (-1), 1) := by decide +kernel
theorem dX10_isSo_49 : decode cX10_isSo 49 = .ok (.ixor, 1) := by decide +kernel
theorem dX10_isSo_50 : decode cX10_isSo 50 = .ok (.iand, 1) := by decide +kernel
theorem dX10_isSo_51 : decode cX10_isSo 51 = .ok (.ifCond .ne 28, 3) := by decide +kernel
theorem dX10_isSo_54 : decode cX10_isSo 54 = .ok (.aload_n 0, 1) := by decide +kernel
theorem dX10_isSo_55 : decode cX10_isSo 55 = .ok (.getfield 25, 3) := by decide +kernel
theorem dX10_isSo_58 : decode cX10_isSo 58 = .ok (.iconst 0, 1) := by decide +kernel
theorem dX10_isSo_59 : decode cX10_isSo 59 = .ok (.iaload, 1) := by decide +kernel
theorem dX10_isSo_60 : decode cX10_isSo 60 = .ok (.aload_n 0, 1) := by decide +kernel
theorem dX10_isSo_61 : decode cX10_isSo 61 = .ok (.getfield 41, 3) := by decide +kernel
theorem dX10_isSo_64 : decode cX10_isSo 64 = .ok (.bipush 40, 2) := by decide +kernel
theorem dX10_isSo_66 : decode cX10_isSo 66 = .ok (.iload_n 2, 1) := by decide +kernel
theorem dX10_isSo_67 : decode cX10_isSo 67 = .ok (.imul, 1) := by decide +kernel
theorem dX10_isSo_68 : decode cX10_isSo 68 = .ok (.iload 6, 2) := by decide +kernel
theorem dX10_isSo_70 : decode cX10_isSo 70 = .ok (.iadd, 1) := by decide +kernel
theorem dX10_isSo_71 : decode cX10_isSo 71 = .ok (.iaload, 1) := by decide +kernel
theorem dX10_isSo_72 : decode cX10_isSo 72 = .ok (.if_icmp .ne 7, 3) := by decide +kernel
theorem dX10_isSo_75 : decode cX10_isSo 75 = .ok (.iconst 1, 1) := by decide +kernel
theorem dX10_isSo_76 : decode cX10_isSo 76 = .ok (.goto 4, 3) := by decide +kernel
theorem dX10_isSo_79 : decode cX10_isSo 79 = .ok (.iconst 0, 1) := by decide +kernel
theorem dX10_isSo_80 : decode cX10_isSo 80 = .ok (.istore 5, 2) := by decide +kernel
theorem dX10_isSo_82 : decode cX10_isSo 82 = .ok (.iinc 6 1, 3) := by decide +kernel
theorem dX10_isSo_85 : decode cX10_isSo 85 = .ok (.goto (-71), 3) := by decide +kernel
theorem dX10_isSo_88 : decode cX10_isSo 88 = .ok (.aload_n 0, 1) := by decide +kernel
theorem dX10_isSo_89 : decode cX10_isSo 89 = .ok (.invokevirtual 239, 3) := by decide +kernel
theorem dX10_isSo_92 : decode cX10_isSo 92 = .ok (.iload 5, 2) := by decide +kernel
theorem dX10_isSo_94 : decode cX10_isSo 94 = .ok (.ireturn, 1) := by decide +kernel
theorem dX10_fits_0 : decode cX10_fits 0 = .ok (.aload_n 0, 1) := by decide +kernel
theorem dX10_fits_1 : decode cX10_fits 1 = .ok (.iload_n 1, 1) := by decide +kernel
theorem dX10_fits_2 : decode cX10_fits 2 = .ok (.invokevirtual 218, 3) := by decide +kernel
theorem dX10_fits_5 : decode cX10_fits 5 = .ok (.ifCond .eq 17, 3) := by decide +kernel
theorem dX10_fits_8 : decode cX10_fits 8 = .ok (.iload_n 2, 1) := by decide +kernel
theorem dX10_fits_9 : decode cX10_fits 9 = .ok (.invokestatic 110, 3) := by decide +kernel
theorem dX10_fits_12 : decode cX10_fits 12 = .ok (.ifCond .eq 10, 3) := by decide +kernel
theorem dX10_fits_15 : decode cX10_fits 15 = .ok (.iload_n 3, 1) := by decide +kernel
theorem dX10_fits_16 : decode cX10_fits 16 = .ok (.invokestatic 110, 3) := by decide +kernel
theorem dX10_fits_19 : decode cX10_fits 19 = .ok (.ifCond .ne 5, 3) := by decide +kernel
theorem dX10_fits_22 : decode cX10_fits 22 = .ok (.iconst (-1), 1) := by decide +kernel
theorem dX10_fits_23 : decode cX10_fits 23 = .ok (.ireturn, 1) := by decide +kernel
theorem dX10_fits_24 : decode cX10_fits 24 = .ok (.aload_n 0, 1) := by decide +kernel
theorem dX10_fits_25 : decode cX10_fits 25 = .ok (.iload_n 2, 1) := by decide +kernel
theorem dX10_fits_26 : decode cX10_fits 26 = .ok (.invokevirtual 277, 3) := by decide +kernel
theorem dX10_fits_29 : decode cX10_fits 29 = .ok (.istore 4, 2) := by decide +kernel
theorem dX10_fits_31 : decode cX10_fits 31 = .ok (.iload 4, 2) := by decide +kernel
theorem dX10_fits_33 : decode cX10_fits 33 = .ok (.ifCond .eq 6, 3) := by decide +kernel
theorem dX10_fits_36 : decode cX10_fits 36 = .ok (.iload 4, 2) := by decide +kernel
theorem dX10_fits_38 : decode cX10_fits 38 = .ok (.ireturn, 1) := by decide +kernel
theorem dX10_fits_39 : decode cX10_fits 39 = .ok (.aload_n 0, 1) := by decide +kernel
theorem dX10_fits_40 : decode cX10_fits 40 = .ok (.invokevirtual 232, 3) := by decide +kernel
theorem dX10_fits_43 : decode cX10_fits 43 = .ok (.aload_n 0, 1) := by decide +kernel
theorem dX10_fits_44 : decode cX10_fits 44 = .ok (.getfield 38, 3) := by decide +kernel
theorem dX10_fits_47 : decode cX10_fits 47 = .ok (.iload_n 2, 1) := by decide +kernel
theorem dX10_fits_48 : decode cX10_fits 48 = .ok (.iaload, 1) := by decide +kernel
theorem dX10_fits_49 : decode cX10_fits 49 = .ok (.istore 5, 2) := by decide +kernel
theorem dX10_fits_51 : decode cX10_fits 51 = .ok (.iconst 0, 1) := by decide +kernel
theorem dX10_fits_52 : decode cX10_fits 52 = .ok (.istore 6, 2) := by decide +kernel
theorem dX10_fits_54 : decode cX10_fits 54 = .ok (.iconst 0, 1) := by decide +kernel
theorem dX10_fits_55 : decode cX10_fits 55 = .ok (.istore 7, 2) := by decide +kernel
theorem dX10_fits_57 : decode cX10_fits 57 = .ok (.iconst 0, 1) := by decide +kernel
theorem dX10_fits_58 : decode cX10_fits 58 = .ok (.istore 8, 2) := by decide +kernel
theorem dX10_fits_60 : decode cX10_fits 60 = .ok (.iload 8, 2) := by decide +kernel
theorem dX10_fits_62 : decode cX10_fits 62 = .ok (.aload_n 0, 1) := by decide +kernel
theorem dX10_fits_63 : decode cX10_fits 63 = .ok (.iload 5, 2) := by decide +kernel
theorem dX10_fits_65 : decode cX10_fits 65 = .ok (.invokevirtual 251, 3) := by decide +kernel
theorem dX10_fits_68 : decode cX10_fits 68 = .ok (.if_icmp .ge 53, 3) := by decide +kernel
theorem dX10_fits_71 : decode cX10_fits 71 = .ok (.aload_n 0, 1) := by decide +kernel
theorem dX10_fits_72 : decode cX10_fits 72 = .ok (.iload_n 1, 1) := by decide +kernel
theorem dX10_fits_73 : decode cX10_fits 73 = .ok (.iload_n 2, 1) := by decide +kernel
theorem dX10_fits_74 : decode cX10_fits 74 = .ok (.iload 8, 2) := by decide +kernel
theorem dX10_fits_76 : decode cX10_fits 76 = .ok (.invokevirtual 280, 3) := by decide +kernel
theorem dX10_fits_79 : decode cX10_fits 79 = .ok (.istore 9, 2) := by decide +kernel
theorem dX10_fits_81 : decode cX10_fits 81 = .ok (.iload 9, 2) := by decide +kernel
theorem dX10_fits_83 : decode cX10_fits 83 = .ok (.ifCond .eq 13, 3) := by decide +kernel
theorem dX10_fits_86 : decode cX10_fits 86 = .ok (.iload 6, 2) := by decide +kernel
theorem dX10_fits_88 : decode cX10_fits 88 = .ok (.ifCond .ne 8, 3) := by decide +kernel
theorem dX10_fits_91 : decode cX10_fits 91 = .ok (.iload 8, 2) := by decide +kernel
theorem dX10_fits_93 : decode cX10_fits 93 = .ok (.goto 5, 3) := by decide +kernel
theorem dX10_fits_96 : decode cX10_fits 96 = .ok (.iload 7, 2) := by decide +kernel
theorem dX10_fits_98 : decode cX10_fits 98 = .ok (.istore 7, 2) := by decide +kernel
theorem dX10_fits_100 : decode cX10_fits 100 = .ok (.iload 6, 2) := by decide +kernel
theorem dX10_fits_102 : decode cX10_fits 102 = .ok (.iload 9, 2) := by decide +kernel
theorem dX10_fits_104 : decode cX10_fits 104 = .ok (.ifCond .eq 7, 3) := by decide +kernel
theorem dX10_fits_107 : decode cX10_fits 107 = .ok (.iconst 1, 1) := by decide +kernel
theorem dX10_fits_108 : decode cX10_fits 108 = .ok (.goto 4, 3) := by decide +kernel
theorem dX10_fits_111 : decode cX10_fits 111 = .ok (.iconst 0, 1) := by decide +kernel
theorem dX10_fits_112 : decode cX10_fits 112 = .ok (.iadd, 1) := by decide +kernel
theorem dX10_fits_113 : decode cX10_fits 113 = .ok (.istore 6, 2) := by decide +kernel
theorem dX10_fits_115 : decode cX10_fits 115 = .ok (.iinc 8 1, 3) := by decide +kernel
theorem dX10_fits_118 : decode cX10_fits 118 = .ok (.goto (-58), 3) := by decide +kernel
theorem dX10_fits_121 : decode cX10_fits 121 = .ok (.iload 6, 2) := by decide +kernel
theorem dX10_fits_123 : decode cX10_fits 123 = .ok (.ifCond .le 12, 3) := by decide +kernel
theorem dX10_fits_126 : decode cX10_fits 126 = .ok (.aload_n 0, 1) := by decide +kernel
theorem dX10_fits_127 : decode cX10_fits 127 = .ok (.iload_n 3, 1) := by decide +kernel
theorem dX10_fits_128 : decode cX10_fits 128 = .ok (.iload 7, 2) := by decide +kernel
theorem dX10_fits_130 : decode cX10_fits 130 = .ok (.iload 5, 2) := by decide +kernel
theorem dX10_fits_132 : decode cX10_fits 132 = .ok (.invokevirtual 257, 3) := by decide +kernel
theorem dX10_fits_135 : decode cX10_fits 135 = .ok (.iload 6, 2) := by decide +kernel
theorem dX10_fits_137 : decode cX10_fits 137 = .ok (.ireturn, 1) := by decide +kernel
theorem dX10_slipped_0 : decode cX10_slipped 0 = .ok (.aload_n 0, 1) := by decide +kernel
theorem dX10_slipped_1 : decode cX10_slipped 1 = .ok (.iload_n 1, 1) := by decide +kernel
theorem dX10_slipped_2 : decode cX10_slipped 2 = .ok (.invokevirtual 218, 3) := by decide +kernel
theorem dX10_slipped_5 : decode cX10_slipped 5 = .ok (.ifCond .eq 10, 3) := by decide +kernel
theorem dX10_slipped_8 : decode cX10_slipped 8 = .ok (.iload_n 2, 1) := by decide +kernel
theorem dX10_slipped_9 : decode cX10_slipped 9 = .ok (.invokestatic 110, 3) := by decide +kernel
theorem dX10_slipped_12 : decode cX10_slipped 12 = .ok (.ifCond .ne 5, 3) := by decide +kernel
theorem dX10_slipped_15 : decode cX10_slipped 15 = .ok (.iconst (-1), 1) := by decide +kernel
theorem dX10_slipped_16 : decode cX10_slipped 16 = .ok (.ireturn, 1) := by decide +kernel
theorem dX10_slipped_17 : decode cX10_slipped 17 = .ok (.aload_n 0, 1) := by decide +kernel
theorem dX10_slipped_18 : decode cX10_slipped 18 = .ok (.iload_n 2, 1) := by decide +kernel
theorem dX10_slipped_19 : decode cX10_slipped 19 = .ok (.invokevirtual 277, 3) := by decide +kernel
theorem dX10_slipped_22 : decode cX10_slipped 22 = .ok (.istore_n 3, 1) := by decide +kernel
theorem dX10_slipped_23 : decode cX10_slipped 23 = .ok (.iload_n 3, 1) := by decide +kernel
theorem dX10_slipped_24 : decode cX10_slipped 24 = .ok (.ifCond .eq 5, 3) := by decide +kernel
theorem dX10_slipped_27 : decode cX10_slipped 27 = .ok (.iload_n 3, 1) := by decide +kernel
theorem dX10_slipped_28 : decode cX10_slipped 28 = .ok (.ireturn, 1) := by decide +kernel
theorem dX10_slipped_29 : decode cX10_slipped 29 = .ok (.aload_n 0, 1) := by decide +kernel
theorem dX10_slipped_30 : decode cX10_slipped 30 = .ok (.invokevirtual 232, 3) := by decide +kernel
theorem dX10_slipped_33 : decode cX10_slipped 33 = .ok (.aload_n 0, 1) := by decide +kernel
theorem dX10_slipped_34 : decode cX10_slipped 34 = .ok (.getfield 38, 3) := by decide +kernel
theorem dX10_slipped_37 : decode cX10_slipped 37 = .ok (.iload_n 2, 1) := by decide +kernel
theorem dX10_slipped_38 : decode cX10_slipped 38 = .ok (.iaload, 1) := by decide +kernel
theorem dX10_slipped_39 : decode cX10_slipped 39 = .ok (.istore 4, 2) := by decide +kernel
theorem dX10_slipped_41 : decode cX10_slipped 41 = .ok (.iload_n 1, 1) := by decide +kernel
theorem dX10_slipped_42 : decode cX10_slipped 42 = .ok (.istore 5, 2) := by decide +kernel
theorem dX10_slipped_44 : decode cX10_slipped 44 = .ok (.iconst 0, 1) := by decide +kernel
theorem dX10_slipped_45 : decode cX10_slipped 45 = .ok (.istore 6, 2) := by decide +kernel
theorem dX10_slipped_47 : decode cX10_slipped 47 = .ok (.iconst 0, 1) := by decide +kernel
theorem dX10_slipped_48 : decode cX10_slipped 48 = .ok (.istore 7, 2) := by decide +kernel
theorem dX10_slipped_50 : decode cX10_slipped 50 = .ok (.iload 7, 2) := by decide +kernel
theorem dX10_slipped_52 : decode cX10_slipped 52 = .ok (.aload_n 0, 1) := by decide +kernel
theorem dX10_slipped_53 : decode cX10_slipped 53 = .ok (.iload 4, 2) := by decide +kernel
theorem dX10_slipped_55 : decode cX10_slipped 55 = .ok (.invokevirtual 251, 3) := by decide +kernel
theorem dX10_slipped_58 : decode cX10_slipped 58 = .ok (.if_icmp .ge 68, 3) := by decide +kernel
theorem dX10_slipped_61 : decode cX10_slipped 61 = .ok (.aload_n 0, 1) := by decide +kernel
theorem dX10_slipped_62 : decode cX10_slipped 62 = .ok (.iload_n 1, 1) := by decide +kernel
theorem dX10_slipped_63 : decode cX10_slipped 63 = .ok (.iload_n 2, 1) := by decide +kernel
theorem dX10_slipped_64 : decode cX10_slipped 64 = .ok (.iload 7, 2) := by decide +kernel
theorem dX10_slipped_66 : decode cX10_slipped 66 = .ok (.invokevirtual 280, 3) := by decide +kernel
theorem dX10_slipped_69 : decode cX10_slipped 69 = .ok (.ifCond .eq 51, 3) := by decide +kernel
theorem dX10_slipped_72 : decode cX10_slipped 72 = .ok (.iconst 0, 1) := by decide +kernel
theorem dX10_slipped_73 : decode cX10_slipped 73 = .ok (.istore 8, 2) := by decide +kernel
theorem dX10_slipped_75 : decode cX10_slipped 75 = .ok (.iconst 0, 1) := by decide +kernel
theorem dX10_slipped_76 : decode cX10_slipped 76 = .ok (.istore 9, 2) := by decide +kernel
theorem dX10_slipped_78 : decode cX10_slipped 78 = .ok (.iload 9, 2) := by decide +kernel
theorem dX10_slipped_80 : decode cX10_slipped 80 = .ok (.iload 4, 2) := by decide +kernel
theorem dX10_slipped_82 : decode cX10_slipped 82 = .ok (.if_icmp .ge 28, 3) := by decide +kernel
theorem dX10_slipped_85 : decode cX10_slipped 85 = .ok (.iload 8, 2) := by decide +kernel
theorem dX10_slipped_87 : decode cX10_slipped 87 = .ok (.iload_n 1, 1) := by decide +kernel
theorem dX10_slipped_88 : decode cX10_slipped 88 = .ok (.aload_n 0, 1) := by decide +kernel
theorem dX10_slipped_89 : decode cX10_slipped 89 = .ok (.iload 7, 2) := by decide +kernel
theorem dX10_slipped_91 : decode cX10_slipped 91 = .ok (.iload 4, 2) := by decide +kernel
theorem dX10_slipped_93 : decode cX10_slipped 93 = .ok (.iload 9, 2) := by decide +kernel
theorem dX10_slipped_95 : decode cX10_slipped 95 = .ok (.invokevirtual 248, 3) := by decide +kernel
theorem dX10_slipped_98 : decode cX10_slipped 98 = .ok (.iconst (-1), 1) := by decide +kernel
theorem dX10_slipped_99 : decode cX10_slipped 99 = .ok (.ixor, 1) := by decide +kernel
theorem dX10_slipped_100 : decode cX10_slipped 100 = .ok (.iand, 1) := by decide +kernel
theorem dX10_slipped_101 : decode cX10_slipped 101 = .ok (.ior, 1) := by decide +kernel
theorem dX10_slipped_102 : decode cX10_slipped 102 = .ok (.istore 8, 2) := by decide +kernel
theorem dX10_slipped_104 : decode cX10_slipped 104 = .ok (.iinc 9 1, 3) := by decide +kernel
theorem dX10_slipped_107 : decode cX10_slipped 107 = .ok (.goto (-29), 3) := by decide +kernel
theorem dX10_slipped_110 : decode cX10_slipped 110 = .ok (.iload 5, 2) := by decide +kernel
theorem dX10_slipped_112 : decode cX10_slipped 112 = .ok (.iload 8, 2) := by decide +kernel
theorem dX10_slipped_114 : decode cX10_slipped 114 = .ok (.iand, 1) := by decide +kernel
theorem dX10_slipped_115 : decode cX10_slipped 115 = .ok (.istore 5, 2) := by decide +kernel
theorem dX10_slipped_117 : decode cX10_slipped 117 = .ok (.iconst 1, 1) := by decide +kernel
theorem dX10_slipped_118 : decode cX10_slipped 118 = .ok (.istore 6, 2) := by decide +kernel
theorem dX10_slipped_120 : decode cX10_slipped 120 = .ok (.iinc 7 1, 3) := by decide +kernel
theorem dX10_slipped_123 : decode cX10_slipped 123 = .ok (.goto (-73), 3) := by decide +kernel
theorem dX10_slipped_126 : decode cX10_slipped 126 = .ok (.iload 6, 2) := by decide +kernel
theorem dX10_slipped_128 : decode cX10_slipped 128 = .ok (.ifCond .eq 8, 3) := by decide +kernel
theorem dX10_slipped_131 : decode cX10_slipped 131 = .ok (.iload 5, 2) := by decide +kernel
theorem dX10_slipped_133 : decode cX10_slipped 133 = .ok (.goto 4, 3) := by decide +kernel
theorem dX10_slipped_136 : decode cX10_slipped 136 = .ok (.iconst 0, 1) := by decide +kernel
theorem dX10_slipped_137 : decode cX10_slipped 137 = .ok (.ireturn, 1) := by decide +kernel
theorem dX10_tellOdds_0 : decode cX10_tellOdds 0 = .ok (.lload_n 1, 1) := by decide +kernel
theorem dX10_tellOdds_1 : decode cX10_tellOdds 1 = .ok (.lstore 5, 2) := by decide +kernel
theorem dX10_tellOdds_3 : decode cX10_tellOdds 3 = .ok (.lload_n 3, 1) := by decide +kernel
theorem dX10_tellOdds_4 : decode cX10_tellOdds 4 = .ok (.lstore 7, 2) := by decide +kernel
theorem dX10_tellOdds_6 : decode cX10_tellOdds 6 = .ok (.lload 7, 2) := by decide +kernel
theorem dX10_tellOdds_8 : decode cX10_tellOdds 8 = .ok (.lconst 0, 1) := by decide +kernel
theorem dX10_tellOdds_9 : decode cX10_tellOdds 9 = .ok (.lcmp, 1) := by decide +kernel
theorem dX10_tellOdds_10 : decode cX10_tellOdds 10 = .ok (.ifCond .eq 21, 3) := by decide +kernel
theorem dX10_tellOdds_13 : decode cX10_tellOdds 13 = .ok (.lload 5, 2) := by decide +kernel
theorem dX10_tellOdds_15 : decode cX10_tellOdds 15 = .ok (.lload 7, 2) := by decide +kernel
theorem dX10_tellOdds_17 : decode cX10_tellOdds 17 = .ok (.lrem, 1) := by decide +kernel
theorem dX10_tellOdds_18 : decode cX10_tellOdds 18 = .ok (.lstore 9, 2) := by decide +kernel
theorem dX10_tellOdds_20 : decode cX10_tellOdds 20 = .ok (.lload 7, 2) := by decide +kernel
theorem dX10_tellOdds_22 : decode cX10_tellOdds 22 = .ok (.lstore 5, 2) := by decide +kernel
theorem dX10_tellOdds_24 : decode cX10_tellOdds 24 = .ok (.lload 9, 2) := by decide +kernel
theorem dX10_tellOdds_26 : decode cX10_tellOdds 26 = .ok (.lstore 7, 2) := by decide +kernel
theorem dX10_tellOdds_28 : decode cX10_tellOdds 28 = .ok (.goto (-22), 3) := by decide +kernel
theorem dX10_tellOdds_31 : decode cX10_tellOdds 31 = .ok (.aload_n 0, 1) := by decide +kernel
theorem dX10_tellOdds_32 : decode cX10_tellOdds 32 = .ok (.lload_n 1, 1) := by decide +kernel
theorem dX10_tellOdds_33 : decode cX10_tellOdds 33 = .ok (.lload 5, 2) := by decide +kernel
theorem dX10_tellOdds_35 : decode cX10_tellOdds 35 = .ok (.ldiv, 1) := by decide +kernel
theorem dX10_tellOdds_36 : decode cX10_tellOdds 36 = .ok (.putfield 284, 3) := by decide +kernel
theorem dX10_tellOdds_39 : decode cX10_tellOdds 39 = .ok (.aload_n 0, 1) := by decide +kernel
theorem dX10_tellOdds_40 : decode cX10_tellOdds 40 = .ok (.lload_n 3, 1) := by decide +kernel
theorem dX10_tellOdds_41 : decode cX10_tellOdds 41 = .ok (.lload 5, 2) := by decide +kernel
theorem dX10_tellOdds_43 : decode cX10_tellOdds 43 = .ok (.ldiv, 1) := by decide +kernel
theorem dX10_tellOdds_44 : decode cX10_tellOdds 44 = .ok (.putfield 31, 3) := by decide +kernel
theorem dX10_tellOdds_47 : decode cX10_tellOdds 47 = .ok (.return_, 1) := by decide +kernel
theorem dX10_odds_0 : decode cX10_odds 0 = .ok (.aload_n 0, 1) := by decide +kernel
theorem dX10_odds_1 : decode cX10_odds 1 = .ok (.iload_n 1, 1) := by decide +kernel
theorem dX10_odds_2 : decode cX10_odds 2 = .ok (.invokevirtual 218, 3) := by decide +kernel
theorem dX10_odds_5 : decode cX10_odds 5 = .ok (.ifCond .eq 27, 3) := by decide +kernel
theorem dX10_odds_8 : decode cX10_odds 8 = .ok (.iload_n 2, 1) := by decide +kernel
theorem dX10_odds_9 : decode cX10_odds 9 = .ok (.i2l, 1) := by decide +kernel
theorem dX10_odds_10 : decode cX10_odds 10 = .ok (.lconst 0, 1) := by decide +kernel
theorem dX10_odds_11 : decode cX10_odds 11 = .ok (.ldc2_w 102, 3) := by decide +kernel
theorem dX10_odds_14 : decode cX10_odds 14 = .ok (.invokestatic 98, 3) := by decide +kernel
theorem dX10_odds_17 : decode cX10_odds 17 = .ok (.ifCond .eq 15, 3) := by decide +kernel
theorem dX10_odds_20 : decode cX10_odds 20 = .ok (.iload_n 3, 1) := by decide +kernel
theorem dX10_odds_21 : decode cX10_odds 21 = .ok (.i2l, 1) := by decide +kernel
theorem dX10_odds_22 : decode cX10_odds 22 = .ok (.lconst 0, 1) := by decide +kernel
theorem dX10_odds_23 : decode cX10_odds 23 = .ok (.ldc2_w 287, 3) := by decide +kernel
theorem dX10_odds_26 : decode cX10_odds 26 = .ok (.invokestatic 98, 3) := by decide +kernel
theorem dX10_odds_29 : decode cX10_odds 29 = .ok (.ifCond .ne 5, 3) := by decide +kernel
theorem dX10_odds_32 : decode cX10_odds 32 = .ok (.iconst (-1), 1) := by decide +kernel
theorem dX10_odds_33 : decode cX10_odds 33 = .ok (.ireturn, 1) := by decide +kernel
theorem dX10_odds_34 : decode cX10_odds 34 = .ok (.aload_n 0, 1) := by decide +kernel
theorem dX10_odds_35 : decode cX10_odds 35 = .ok (.getfield 104, 3) := by decide +kernel
theorem dX10_odds_38 : decode cX10_odds 38 = .ok (.ifCond .ne 6, 3) := by decide +kernel
theorem dX10_odds_41 : decode cX10_odds 41 = .ok (.bipush (-4), 2) := by decide +kernel
theorem dX10_odds_43 : decode cX10_odds 43 = .ok (.ireturn, 1) := by decide +kernel
theorem dX10_odds_44 : decode cX10_odds 44 = .ok (.aload_n 0, 1) := by decide +kernel
theorem dX10_odds_45 : decode cX10_odds 45 = .ok (.invokevirtual 232, 3) := by decide +kernel
theorem dX10_odds_48 : decode cX10_odds 48 = .ok (.iconst 0, 1) := by decide +kernel
theorem dX10_odds_49 : decode cX10_odds 49 = .ok (.istore 4, 2) := by decide +kernel
theorem dX10_odds_51 : decode cX10_odds 51 = .ok (.iconst 0, 1) := by decide +kernel
theorem dX10_odds_52 : decode cX10_odds 52 = .ok (.istore 5, 2) := by decide +kernel
theorem dX10_odds_54 : decode cX10_odds 54 = .ok (.iconst 0, 1) := by decide +kernel
theorem dX10_odds_55 : decode cX10_odds 55 = .ok (.istore 6, 2) := by decide +kernel
theorem dX10_odds_57 : decode cX10_odds 57 = .ok (.iload 6, 2) := by decide +kernel
theorem dX10_odds_59 : decode cX10_odds 59 = .ok (.aload_n 0, 1) := by decide +kernel
theorem dX10_odds_60 : decode cX10_odds 60 = .ok (.iload_n 2, 1) := by decide +kernel
theorem dX10_odds_61 : decode cX10_odds 61 = .ok (.invokevirtual 251, 3) := by decide +kernel
theorem dX10_odds_64 : decode cX10_odds 64 = .ok (.if_icmp .ge 96, 3) := by decide +kernel
theorem dX10_odds_67 : decode cX10_odds 67 = .ok (.iconst 1, 1) := by decide +kernel
theorem dX10_odds_68 : decode cX10_odds 68 = .ok (.istore 7, 2) := by decide +kernel
theorem dX10_odds_70 : decode cX10_odds 70 = .ok (.iconst 0, 1) := by decide +kernel
theorem dX10_odds_71 : decode cX10_odds 71 = .ok (.istore 8, 2) := by decide +kernel
theorem dX10_odds_73 : decode cX10_odds 73 = .ok (.iload 8, 2) := by decide +kernel
theorem dX10_odds_75 : decode cX10_odds 75 = .ok (.iload_n 2, 1) := by decide +kernel
theorem dX10_odds_76 : decode cX10_odds 76 = .ok (.if_icmp .ge 37, 3) := by decide +kernel
theorem dX10_odds_79 : decode cX10_odds 79 = .ok (.iload 7, 2) := by decide +kernel
theorem dX10_odds_81 : decode cX10_odds 81 = .ok (.ifCond .eq 23, 3) := by decide +kernel
theorem dX10_odds_84 : decode cX10_odds 84 = .ok (.aload_n 0, 1) := by decide +kernel
theorem dX10_odds_85 : decode cX10_odds 85 = .ok (.iload 6, 2) := by decide +kernel
theorem dX10_odds_87 : decode cX10_odds 87 = .ok (.iload_n 2, 1) := by decide +kernel
theorem dX10_odds_88 : decode cX10_odds 88 = .ok (.iload 8, 2) := by decide +kernel
theorem dX10_odds_90 : decode cX10_odds 90 = .ok (.invokevirtual 248, 3) := by decide +kernel
theorem dX10_odds_93 : decode cX10_odds 93 = .ok (.iload_n 1, 1) := by decide +kernel
theorem dX10_odds_94 : decode cX10_odds 94 = .ok (.iconst (-1), 1) := by decide +kernel
theorem dX10_odds_95 : decode cX10_odds 95 = .ok (.ixor, 1) := by decide +kernel
theorem dX10_odds_96 : decode cX10_odds 96 = .ok (.iand, 1) := by decide +kernel
theorem dX10_odds_97 : decode cX10_odds 97 = .ok (.ifCond .ne 7, 3) := by decide +kernel
theorem dX10_odds_100 : decode cX10_odds 100 = .ok (.iconst 1, 1) := by decide +kernel
theorem dX10_odds_101 : decode cX10_odds 101 = .ok (.goto 4, 3) := by decide +kernel
theorem dX10_odds_104 : decode cX10_odds 104 = .ok (.iconst 0, 1) := by decide +kernel
theorem dX10_odds_105 : decode cX10_odds 105 = .ok (.istore 7, 2) := by decide +kernel
theorem dX10_odds_107 : decode cX10_odds 107 = .ok (.iinc 8 1, 3) := by decide +kernel
theorem dX10_odds_110 : decode cX10_odds 110 = .ok (.goto (-37), 3) := by decide +kernel
theorem dX10_odds_113 : decode cX10_odds 113 = .ok (.iload 7, 2) := by decide +kernel
theorem dX10_odds_115 : decode cX10_odds 115 = .ok (.ifCond .eq 39, 3) := by decide +kernel
theorem dX10_odds_118 : decode cX10_odds 118 = .ok (.aload_n 0, 1) := by decide +kernel
theorem dX10_odds_119 : decode cX10_odds 119 = .ok (.iload 6, 2) := by decide +kernel
theorem dX10_odds_121 : decode cX10_odds 121 = .ok (.iload_n 2, 1) := by decide +kernel
theorem dX10_odds_122 : decode cX10_odds 122 = .ok (.invokevirtual 254, 3) := by decide +kernel
theorem dX10_odds_125 : decode cX10_odds 125 = .ok (.istore 8, 2) := by decide +kernel
theorem dX10_odds_127 : decode cX10_odds 127 = .ok (.iload 5, 2) := by decide +kernel
theorem dX10_odds_129 : decode cX10_odds 129 = .ok (.aload_n 0, 1) := by decide +kernel
theorem dX10_odds_130 : decode cX10_odds 130 = .ok (.getfield 25, 3) := by decide +kernel
theorem dX10_odds_133 : decode cX10_odds 133 = .ok (.iconst 0, 1) := by decide +kernel
theorem dX10_odds_134 : decode cX10_odds 134 = .ok (.iaload, 1) := by decide +kernel
theorem dX10_odds_135 : decode cX10_odds 135 = .ok (.iload_n 3, 1) := by decide +kernel
theorem dX10_odds_136 : decode cX10_odds 136 = .ok (.if_icmp .lt 7, 3) := by decide +kernel
theorem dX10_odds_139 : decode cX10_odds 139 = .ok (.iconst 1, 1) := by decide +kernel
theorem dX10_odds_140 : decode cX10_odds 140 = .ok (.goto 4, 3) := by decide +kernel
theorem dX10_odds_143 : decode cX10_odds 143 = .ok (.iconst 0, 1) := by decide +kernel
theorem dX10_odds_144 : decode cX10_odds 144 = .ok (.iadd, 1) := by decide +kernel
theorem dX10_odds_145 : decode cX10_odds 145 = .ok (.istore 5, 2) := by decide +kernel
theorem dX10_odds_147 : decode cX10_odds 147 = .ok (.iinc 4 1, 3) := by decide +kernel
theorem dX10_odds_150 : decode cX10_odds 150 = .ok (.aload_n 0, 1) := by decide +kernel
theorem dX10_odds_151 : decode cX10_odds 151 = .ok (.invokevirtual 239, 3) := by decide +kernel
theorem dX10_odds_154 : decode cX10_odds 154 = .ok (.iinc 6 1, 3) := by decide +kernel
theorem dX10_odds_157 : decode cX10_odds 157 = .ok (.goto (-100), 3) := by decide +kernel
theorem dX10_odds_160 : decode cX10_odds 160 = .ok (.aload_n 0, 1) := by decide +kernel
theorem dX10_odds_161 : decode cX10_odds 161 = .ok (.iload 5, 2) := by decide +kernel
theorem dX10_odds_163 : decode cX10_odds 163 = .ok (.i2l, 1) := by decide +kernel
theorem dX10_odds_164 : decode cX10_odds 164 = .ok (.iload 4, 2) := by decide +kernel
theorem dX10_odds_166 : decode cX10_odds 166 = .ok (.i2l, 1) := by decide +kernel
theorem dX10_odds_167 : decode cX10_odds 167 = .ok (.invokevirtual 289, 3) := by decide +kernel
theorem dX10_odds_170 : decode cX10_odds 170 = .ok (.iconst 1, 1) := by decide +kernel
theorem dX10_odds_171 : decode cX10_odds 171 = .ok (.ireturn, 1) := by decide +kernel
theorem dX10_lots_0 : decode cX10_lots 0 = .ok (.iload_n 1, 1) := by decide +kernel
theorem dX10_lots_1 : decode cX10_lots 1 = .ok (.i2l, 1) := by decide +kernel
theorem dX10_lots_2 : decode cX10_lots 2 = .ok (.lconst 1, 1) := by decide +kernel
theorem dX10_lots_3 : decode cX10_lots 3 = .ok (.ldc2_w 293, 3) := by decide +kernel
theorem dX10_lots_6 : decode cX10_lots 6 = .ok (.invokestatic 98, 3) := by decide +kernel
theorem dX10_lots_9 : decode cX10_lots 9 = .ok (.ifCond .eq 15, 3) := by decide +kernel
theorem dX10_lots_12 : decode cX10_lots 12 = .ok (.iload_n 2, 1) := by decide +kernel
theorem dX10_lots_13 : decode cX10_lots 13 = .ok (.i2l, 1) := by decide +kernel
theorem dX10_lots_14 : decode cX10_lots 14 = .ok (.lconst 1, 1) := by decide +kernel
theorem dX10_lots_15 : decode cX10_lots 15 = .ok (.ldc2_w 295, 3) := by decide +kernel
theorem dX10_lots_18 : decode cX10_lots 18 = .ok (.invokestatic 98, 3) := by decide +kernel
theorem dX10_lots_21 : decode cX10_lots 21 = .ok (.ifCond .ne 5, 3) := by decide +kernel
theorem dX10_lots_24 : decode cX10_lots 24 = .ok (.iconst (-1), 1) := by decide +kernel
theorem dX10_lots_25 : decode cX10_lots 25 = .ok (.ireturn, 1) := by decide +kernel
theorem dX10_lots_26 : decode cX10_lots 26 = .ok (.aload_n 0, 1) := by decide +kernel
theorem dX10_lots_27 : decode cX10_lots 27 = .ok (.getfield 104, 3) := by decide +kernel
theorem dX10_lots_30 : decode cX10_lots 30 = .ok (.ifCond .ne 6, 3) := by decide +kernel
theorem dX10_lots_33 : decode cX10_lots 33 = .ok (.bipush (-4), 2) := by decide +kernel
theorem dX10_lots_35 : decode cX10_lots 35 = .ok (.ireturn, 1) := by decide +kernel
theorem dX10_lots_36 : decode cX10_lots 36 = .ok (.aload_n 0, 1) := by decide +kernel
theorem dX10_lots_37 : decode cX10_lots 37 = .ok (.getfield 156, 3) := by decide +kernel
theorem dX10_lots_40 : decode cX10_lots 40 = .ok (.iload_n 1, 1) := by decide +kernel
theorem dX10_lots_41 : decode cX10_lots 41 = .ok (.iadd, 1) := by decide +kernel
theorem dX10_lots_42 : decode cX10_lots 42 = .ok (.bipush 60, 2) := by decide +kernel
theorem dX10_lots_44 : decode cX10_lots 44 = .ok (.if_icmp .le 6, 3) := by decide +kernel
theorem dX10_lots_47 : decode cX10_lots 47 = .ok (.bipush (-2), 2) := by decide +kernel
theorem dX10_lots_49 : decode cX10_lots 49 = .ok (.ireturn, 1) := by decide +kernel
theorem dX10_lots_50 : decode cX10_lots 50 = .ok (.iload_n 2, 1) := by decide +kernel
theorem dX10_lots_51 : decode cX10_lots 51 = .ok (.i2l, 1) := by decide +kernel
theorem dX10_lots_52 : decode cX10_lots 52 = .ok (.lstore_n 3, 1) := by decide +kernel
theorem dX10_lots_53 : decode cX10_lots 53 = .ok (.iconst 0, 1) := by decide +kernel
theorem dX10_lots_54 : decode cX10_lots 54 = .ok (.istore 5, 2) := by decide +kernel
theorem dX10_lots_56 : decode cX10_lots 56 = .ok (.iconst 0, 1) := by decide +kernel
theorem dX10_lots_57 : decode cX10_lots 57 = .ok (.istore 6, 2) := by decide +kernel
theorem dX10_lots_59 : decode cX10_lots 59 = .ok (.iload 6, 2) := by decide +kernel
theorem dX10_lots_61 : decode cX10_lots 61 = .ok (.iload_n 1, 1) := by decide +kernel
theorem dX10_lots_62 : decode cX10_lots 62 = .ok (.if_icmp .ge 50, 3) := by decide +kernel
theorem dX10_lots_65 : decode cX10_lots 65 = .ok (.lload_n 3, 1) := by decide +kernel
theorem dX10_lots_66 : decode cX10_lots 66 = .ok (.ldc2_w 297, 3) := by decide +kernel
theorem dX10_lots_69 : decode cX10_lots 69 = .ok (.lmul, 1) := by decide +kernel
theorem dX10_lots_70 : decode cX10_lots 70 = .ok (.ldc2_w 299, 3) := by decide +kernel
theorem dX10_lots_73 : decode cX10_lots 73 = .ok (.lrem, 1) := by decide +kernel
theorem dX10_lots_74 : decode cX10_lots 74 = .ok (.lstore_n 3, 1) := by decide +kernel
theorem dX10_lots_75 : decode cX10_lots 75 = .ok (.aload_n 0, 1) := by decide +kernel
theorem dX10_lots_76 : decode cX10_lots 76 = .ok (.invokevirtual 221, 3) := by decide +kernel
theorem dX10_lots_79 : decode cX10_lots 79 = .ok (.aload_n 0, 1) := by decide +kernel
theorem dX10_lots_80 : decode cX10_lots 80 = .ok (.lload_n 3, 1) := by decide +kernel
theorem dX10_lots_81 : decode cX10_lots 81 = .ok (.ldc2_w 301, 3) := by decide +kernel
theorem dX10_lots_84 : decode cX10_lots 84 = .ok (.ldiv, 1) := by decide +kernel
theorem dX10_lots_85 : decode cX10_lots 85 = .ok (.iconst 1, 1) := by decide +kernel
theorem dX10_lots_86 : decode cX10_lots 86 = .ok (.aload_n 0, 1) := by decide +kernel
theorem dX10_lots_87 : decode cX10_lots 87 = .ok (.getfield 104, 3) := by decide +kernel
theorem dX10_lots_90 : decode cX10_lots 90 = .ok (.ishl, 1) := by decide +kernel
theorem dX10_lots_91 : decode cX10_lots 91 = .ok (.i2l, 1) := by decide +kernel
theorem dX10_lots_92 : decode cX10_lots 92 = .ok (.lrem, 1) := by decide +kernel
theorem dX10_lots_93 : decode cX10_lots 93 = .ok (.l2i, 1) := by decide +kernel
theorem dX10_lots_94 : decode cX10_lots 94 = .ok (.invokevirtual 224, 3) := by decide +kernel
theorem dX10_lots_97 : decode cX10_lots 97 = .ok (.istore 7, 2) := by decide +kernel
theorem dX10_lots_99 : decode cX10_lots 99 = .ok (.iload 5, 2) := by decide +kernel
theorem dX10_lots_101 : decode cX10_lots 101 = .ok (.iload 7, 2) := by decide +kernel
theorem dX10_lots_103 : decode cX10_lots 103 = .ok (.iadd, 1) := by decide +kernel
theorem dX10_lots_104 : decode cX10_lots 104 = .ok (.istore 5, 2) := by decide +kernel
theorem dX10_lots_106 : decode cX10_lots 106 = .ok (.iinc 6 1, 3) := by decide +kernel
theorem dX10_lots_109 : decode cX10_lots 109 = .ok (.goto (-50), 3) := by decide +kernel
theorem dX10_lots_112 : decode cX10_lots 112 = .ok (.iload 5, 2) := by decide +kernel
theorem dX10_lots_114 : decode cX10_lots 114 = .ok (.ireturn, 1) := by decide +kernel
theorem dX10_asked_0 : decode cX10_asked 0 = .ok (.aload_n 0, 1) := by decide +kernel
theorem dX10_asked_1 : decode cX10_asked 1 = .ok (.getfield 118, 3) := by decide +kernel
theorem dX10_asked_4 : decode cX10_asked 4 = .ok (.ireturn, 1) := by decide +kernel
theorem dX10_upper_0 : decode cX10_upper 0 = .ok (.aload_n 0, 1) := by decide +kernel
theorem dX10_upper_1 : decode cX10_upper 1 = .ok (.getfield 284, 3) := by decide +kernel
theorem dX10_upper_4 : decode cX10_upper 4 = .ok (.lreturn, 1) := by decide +kernel
theorem dX10_lower_0 : decode cX10_lower 0 = .ok (.aload_n 0, 1) := by decide +kernel
theorem dX10_lower_1 : decode cX10_lower 1 = .ok (.getfield 31, 3) := by decide +kernel
theorem dX10_lower_4 : decode cX10_lower 4 = .ok (.lreturn, 1) := by decide +kernel
theorem dX10_pullers_0 : decode cX10_pullers 0 = .ok (.iconst 0, 1) := by decide +kernel
theorem dX10_pullers_1 : decode cX10_pullers 1 = .ok (.istore_n 1, 1) := by decide +kernel
theorem dX10_pullers_2 : decode cX10_pullers 2 = .ok (.iconst 0, 1) := by decide +kernel
theorem dX10_pullers_3 : decode cX10_pullers 3 = .ok (.istore_n 2, 1) := by decide +kernel
theorem dX10_pullers_4 : decode cX10_pullers 4 = .ok (.iload_n 2, 1) := by decide +kernel
theorem dX10_pullers_5 : decode cX10_pullers 5 = .ok (.aload_n 0, 1) := by decide +kernel
theorem dX10_pullers_6 : decode cX10_pullers 6 = .ok (.getfield 104, 3) := by decide +kernel
theorem dX10_pullers_9 : decode cX10_pullers 9 = .ok (.if_icmp .ge 25, 3) := by decide +kernel
theorem dX10_pullers_12 : decode cX10_pullers 12 = .ok (.iload_n 1, 1) := by decide +kernel
theorem dX10_pullers_13 : decode cX10_pullers 13 = .ok (.aload_n 0, 1) := by decide +kernel
theorem dX10_pullers_14 : decode cX10_pullers 14 = .ok (.iload_n 2, 1) := by decide +kernel
theorem dX10_pullers_15 : decode cX10_pullers 15 = .ok (.invokevirtual 182, 3) := by decide +kernel
theorem dX10_pullers_18 : decode cX10_pullers 18 = .ok (.ifCond .eq 7, 3) := by decide +kernel
theorem dX10_pullers_21 : decode cX10_pullers 21 = .ok (.iconst 1, 1) := by decide +kernel
theorem dX10_pullers_22 : decode cX10_pullers 22 = .ok (.goto 4, 3) := by decide +kernel
theorem dX10_pullers_25 : decode cX10_pullers 25 = .ok (.iconst 0, 1) := by decide +kernel
theorem dX10_pullers_26 : decode cX10_pullers 26 = .ok (.iadd, 1) := by decide +kernel
theorem dX10_pullers_27 : decode cX10_pullers 27 = .ok (.istore_n 1, 1) := by decide +kernel
theorem dX10_pullers_28 : decode cX10_pullers 28 = .ok (.iinc 2 1, 3) := by decide +kernel
theorem dX10_pullers_31 : decode cX10_pullers 31 = .ok (.goto (-27), 3) := by decide +kernel
theorem dX10_pullers_34 : decode cX10_pullers 34 = .ok (.iload_n 1, 1) := by decide +kernel
theorem dX10_pullers_35 : decode cX10_pullers 35 = .ok (.ireturn, 1) := by decide +kernel
theorem dX10_strongOnes_0 : decode cX10_strongOnes 0 = .ok (.iconst 0, 1) := by decide +kernel
theorem dX10_strongOnes_1 : decode cX10_strongOnes 1 = .ok (.istore_n 1, 1) := by decide +kernel
theorem dX10_strongOnes_2 : decode cX10_strongOnes 2 = .ok (.iconst 0, 1) := by decide +kernel
theorem dX10_strongOnes_3 : decode cX10_strongOnes 3 = .ok (.istore_n 2, 1) := by decide +kernel
theorem dX10_strongOnes_4 : decode cX10_strongOnes 4 = .ok (.iload_n 2, 1) := by decide +kernel
theorem dX10_strongOnes_5 : decode cX10_strongOnes 5 = .ok (.aload_n 0, 1) := by decide +kernel
theorem dX10_strongOnes_6 : decode cX10_strongOnes 6 = .ok (.getfield 104, 3) := by decide +kernel
theorem dX10_strongOnes_9 : decode cX10_strongOnes 9 = .ok (.if_icmp .ge 26, 3) := by decide +kernel
theorem dX10_strongOnes_12 : decode cX10_strongOnes 12 = .ok (.iload_n 1, 1) := by decide +kernel
theorem dX10_strongOnes_13 : decode cX10_strongOnes 13 = .ok (.aload_n 0, 1) := by decide +kernel
theorem dX10_strongOnes_14 : decode cX10_strongOnes 14 = .ok (.iload_n 2, 1) := by decide +kernel
theorem dX10_strongOnes_15 : decode cX10_strongOnes 15 = .ok (.iconst 2, 1) := by decide +kernel
theorem dX10_strongOnes_16 : decode cX10_strongOnes 16 = .ok (.invokevirtual 159, 3) := by decide +kernel
theorem dX10_strongOnes_19 : decode cX10_strongOnes 19 = .ok (.ifCond .eq 7, 3) := by decide +kernel
theorem dX10_strongOnes_22 : decode cX10_strongOnes 22 = .ok (.iconst 1, 1) := by decide +kernel
theorem dX10_strongOnes_23 : decode cX10_strongOnes 23 = .ok (.goto 4, 3) := by decide +kernel
theorem dX10_strongOnes_26 : decode cX10_strongOnes 26 = .ok (.iconst 0, 1) := by decide +kernel
theorem dX10_strongOnes_27 : decode cX10_strongOnes 27 = .ok (.iadd, 1) := by decide +kernel
theorem dX10_strongOnes_28 : decode cX10_strongOnes 28 = .ok (.istore_n 1, 1) := by decide +kernel
theorem dX10_strongOnes_29 : decode cX10_strongOnes 29 = .ok (.iinc 2 1, 3) := by decide +kernel
theorem dX10_strongOnes_32 : decode cX10_strongOnes 32 = .ok (.goto (-28), 3) := by decide +kernel
theorem dX10_strongOnes_35 : decode cX10_strongOnes 35 = .ok (.iload_n 1, 1) := by decide +kernel
theorem dX10_strongOnes_36 : decode cX10_strongOnes 36 = .ok (.ireturn, 1) := by decide +kernel
theorem dX10_there_0 : decode cX10_there 0 = .ok (.iconst 0, 1) := by decide +kernel
theorem dX10_there_1 : decode cX10_there 1 = .ok (.istore_n 1, 1) := by decide +kernel
theorem dX10_there_2 : decode cX10_there 2 = .ok (.iconst 0, 1) := by decide +kernel
theorem dX10_there_3 : decode cX10_there 3 = .ok (.istore_n 2, 1) := by decide +kernel
theorem dX10_there_4 : decode cX10_there 4 = .ok (.iload_n 2, 1) := by decide +kernel
theorem dX10_there_5 : decode cX10_there 5 = .ok (.aload_n 0, 1) := by decide +kernel
theorem dX10_there_6 : decode cX10_there 6 = .ok (.arraylength, 1) := by decide +kernel
theorem dX10_there_7 : decode cX10_there 7 = .ok (.if_icmp .ge 23, 3) := by decide +kernel
theorem dX10_there_10 : decode cX10_there 10 = .ok (.iload_n 1, 1) := by decide +kernel
theorem dX10_there_11 : decode cX10_there 11 = .ok (.aload_n 0, 1) := by decide +kernel
theorem dX10_there_12 : decode cX10_there 12 = .ok (.iload_n 2, 1) := by decide +kernel
theorem dX10_there_13 : decode cX10_there 13 = .ok (.iaload, 1) := by decide +kernel
theorem dX10_there_14 : decode cX10_there 14 = .ok (.ifCond .ge 7, 3) := by decide +kernel
theorem dX10_there_17 : decode cX10_there 17 = .ok (.iconst 0, 1) := by decide +kernel
theorem dX10_there_18 : decode cX10_there 18 = .ok (.goto 4, 3) := by decide +kernel
theorem dX10_there_21 : decode cX10_there 21 = .ok (.iconst 1, 1) := by decide +kernel
theorem dX10_there_22 : decode cX10_there 22 = .ok (.iadd, 1) := by decide +kernel
theorem dX10_there_23 : decode cX10_there 23 = .ok (.istore_n 1, 1) := by decide +kernel
theorem dX10_there_24 : decode cX10_there 24 = .ok (.iinc 2 1, 3) := by decide +kernel
theorem dX10_there_27 : decode cX10_there 27 = .ok (.goto (-23), 3) := by decide +kernel
theorem dX10_there_30 : decode cX10_there 30 = .ok (.iload_n 1, 1) := by decide +kernel
theorem dX10_there_31 : decode cX10_there 31 = .ok (.ireturn, 1) := by decide +kernel
theorem dX10_count_0 : decode cX10_count 0 = .ok (.iload_n 1, 1) := by decide +kernel
theorem dX10_count_1 : decode cX10_count 1 = .ok (.tableswitch 113 0 8 #[51, 56, 61, 66, 71, 84, 89, 97, 105], 51) := by decide +kernel
theorem dX10_count_52 : decode cX10_count 52 = .ok (.aload_n 0, 1) := by decide +kernel
theorem dX10_count_53 : decode cX10_count 53 = .ok (.getfield 104, 3) := by decide +kernel
theorem dX10_count_56 : decode cX10_count 56 = .ok (.ireturn, 1) := by decide +kernel
theorem dX10_count_57 : decode cX10_count 57 = .ok (.aload_n 0, 1) := by decide +kernel
theorem dX10_count_58 : decode cX10_count 58 = .ok (.getfield 107, 3) := by decide +kernel
theorem dX10_count_61 : decode cX10_count 61 = .ok (.ireturn, 1) := by decide +kernel
theorem dX10_count_62 : decode cX10_count 62 = .ok (.aload_n 0, 1) := by decide +kernel
theorem dX10_count_63 : decode cX10_count 63 = .ok (.getfield 156, 3) := by decide +kernel
theorem dX10_count_66 : decode cX10_count 66 = .ok (.ireturn, 1) := by decide +kernel
theorem dX10_count_67 : decode cX10_count 67 = .ok (.aload_n 0, 1) := by decide +kernel
theorem dX10_count_68 : decode cX10_count 68 = .ok (.invokevirtual 303, 3) := by decide +kernel
theorem dX10_count_71 : decode cX10_count 71 = .ok (.ireturn, 1) := by decide +kernel
theorem dX10_count_72 : decode cX10_count 72 = .ok (.aload_n 0, 1) := by decide +kernel
theorem dX10_count_73 : decode cX10_count 73 = .ok (.invokevirtual 163, 3) := by decide +kernel
theorem dX10_count_76 : decode cX10_count 76 = .ok (.ifCond .eq 7, 3) := by decide +kernel
theorem dX10_count_79 : decode cX10_count 79 = .ok (.iconst 1, 1) := by decide +kernel
theorem dX10_count_80 : decode cX10_count 80 = .ok (.goto 4, 3) := by decide +kernel
theorem dX10_count_83 : decode cX10_count 83 = .ok (.iconst 0, 1) := by decide +kernel
theorem dX10_count_84 : decode cX10_count 84 = .ok (.ireturn, 1) := by decide +kernel
theorem dX10_count_85 : decode cX10_count 85 = .ok (.aload_n 0, 1) := by decide +kernel
theorem dX10_count_86 : decode cX10_count 86 = .ok (.invokevirtual 306, 3) := by decide +kernel
theorem dX10_count_89 : decode cX10_count 89 = .ok (.ireturn, 1) := by decide +kernel
theorem dX10_count_90 : decode cX10_count 90 = .ok (.aload_n 0, 1) := by decide +kernel
theorem dX10_count_91 : decode cX10_count 91 = .ok (.getfield 38, 3) := by decide +kernel
theorem dX10_count_94 : decode cX10_count 94 = .ok (.invokestatic 309, 3) := by decide +kernel
theorem dX10_count_97 : decode cX10_count 97 = .ok (.ireturn, 1) := by decide +kernel
theorem dX10_count_98 : decode cX10_count 98 = .ok (.aload_n 0, 1) := by decide +kernel
theorem dX10_count_99 : decode cX10_count 99 = .ok (.getfield 44, 3) := by decide +kernel
theorem dX10_count_102 : decode cX10_count 102 = .ok (.invokestatic 309, 3) := by decide +kernel
theorem dX10_count_105 : decode cX10_count 105 = .ok (.ireturn, 1) := by decide +kernel
theorem dX10_count_106 : decode cX10_count 106 = .ok (.aload_n 0, 1) := by decide +kernel
theorem dX10_count_107 : decode cX10_count 107 = .ok (.getfield 50, 3) := by decide +kernel
theorem dX10_count_110 : decode cX10_count 110 = .ok (.invokestatic 309, 3) := by decide +kernel
theorem dX10_count_113 : decode cX10_count 113 = .ok (.ireturn, 1) := by decide +kernel
theorem dX10_count_114 : decode cX10_count 114 = .ok (.iconst (-1), 1) := by decide +kernel
theorem dX10_count_115 : decode cX10_count 115 = .ok (.ireturn, 1) := by decide +kernel
theorem dX10_finding_0 : decode cX10_finding 0 = .ok (.aload_n 0, 1) := by decide +kernel
theorem dX10_finding_1 : decode cX10_finding 1 = .ok (.getfield 92, 3) := by decide +kernel
theorem dX10_finding_4 : decode cX10_finding 4 = .ok (.ireturn, 1) := by decide +kernel
theorem dX10_findings_0 : decode cX10_findings 0 = .ok (.iload_n 1, 1) := by decide +kernel
theorem dX10_findings_1 : decode cX10_findings 1 = .ok (.i2l, 1) := by decide +kernel
theorem dX10_findings_2 : decode cX10_findings 2 = .ok (.lconst 1, 1) := by decide +kernel
theorem dX10_findings_3 : decode cX10_findings 3 = .ok (.ldc2_w 96, 3) := by decide +kernel
theorem dX10_findings_6 : decode cX10_findings 6 = .ok (.invokestatic 98, 3) := by decide +kernel
theorem dX10_findings_9 : decode cX10_findings 9 = .ok (.ifCond .eq 12, 3) := by decide +kernel
theorem dX10_findings_12 : decode cX10_findings 12 = .ok (.aload_n 0, 1) := by decide +kernel
theorem dX10_findings_13 : decode cX10_findings 13 = .ok (.getfield 35, 3) := by decide +kernel
theorem dX10_findings_16 : decode cX10_findings 16 = .ok (.iload_n 1, 1) := by decide +kernel
theorem dX10_findings_17 : decode cX10_findings 17 = .ok (.iaload, 1) := by decide +kernel
theorem dX10_findings_18 : decode cX10_findings 18 = .ok (.goto 4, 3) := by decide +kernel
theorem dX10_findings_21 : decode cX10_findings 21 = .ok (.iconst (-1), 1) := by decide +kernel
theorem dX10_findings_22 : decode cX10_findings 22 = .ok (.ireturn, 1) := by decide +kernel
theorem dX10_digest_0 : decode cX10_digest 0 = .ok (.ldc2_w 313, 3) := by decide +kernel
theorem dX10_digest_3 : decode cX10_digest 3 = .ok (.lstore_n 1, 1) := by decide +kernel
theorem dX10_digest_4 : decode cX10_digest 4 = .ok (.iconst 0, 1) := by decide +kernel
theorem dX10_digest_5 : decode cX10_digest 5 = .ok (.istore_n 3, 1) := by decide +kernel
theorem dX10_digest_6 : decode cX10_digest 6 = .ok (.iload_n 3, 1) := by decide +kernel
theorem dX10_digest_7 : decode cX10_digest 7 = .ok (.bipush 9, 2) := by decide +kernel
theorem dX10_digest_9 : decode cX10_digest 9 = .ok (.if_icmp .ge 22, 3) := by decide +kernel
theorem dX10_digest_12 : decode cX10_digest 12 = .ok (.ldc2_w 315, 3) := by decide +kernel
theorem dX10_digest_15 : decode cX10_digest 15 = .ok (.lload_n 1, 1) := by decide +kernel
theorem dX10_digest_16 : decode cX10_digest 16 = .ok (.lmul, 1) := by decide +kernel
theorem dX10_digest_17 : decode cX10_digest 17 = .ok (.aload_n 0, 1) := by decide +kernel
theorem dX10_digest_18 : decode cX10_digest 18 = .ok (.iload_n 3, 1) := by decide +kernel
theorem dX10_digest_19 : decode cX10_digest 19 = .ok (.invokevirtual 317, 3) := by decide +kernel
theorem dX10_digest_22 : decode cX10_digest 22 = .ok (.i2l, 1) := by decide +kernel
theorem dX10_digest_23 : decode cX10_digest 23 = .ok (.ladd, 1) := by decide +kernel
theorem dX10_digest_24 : decode cX10_digest 24 = .ok (.lstore_n 1, 1) := by decide +kernel
theorem dX10_digest_25 : decode cX10_digest 25 = .ok (.iinc 3 1, 3) := by decide +kernel
theorem dX10_digest_28 : decode cX10_digest 28 = .ok (.goto (-22), 3) := by decide +kernel
theorem dX10_digest_31 : decode cX10_digest 31 = .ok (.ldc2_w 315, 3) := by decide +kernel
theorem dX10_digest_34 : decode cX10_digest 34 = .ok (.ldc2_w 315, 3) := by decide +kernel
theorem dX10_digest_37 : decode cX10_digest 37 = .ok (.lload_n 1, 1) := by decide +kernel
theorem dX10_digest_38 : decode cX10_digest 38 = .ok (.lmul, 1) := by decide +kernel
theorem dX10_digest_39 : decode cX10_digest 39 = .ok (.aload_n 0, 1) := by decide +kernel
theorem dX10_digest_40 : decode cX10_digest 40 = .ok (.getfield 25, 3) := by decide +kernel
theorem dX10_digest_43 : decode cX10_digest 43 = .ok (.iconst 0, 1) := by decide +kernel
theorem dX10_digest_44 : decode cX10_digest 44 = .ok (.iaload, 1) := by decide +kernel
theorem dX10_digest_45 : decode cX10_digest 45 = .ok (.i2l, 1) := by decide +kernel
theorem dX10_digest_46 : decode cX10_digest 46 = .ok (.ladd, 1) := by decide +kernel
theorem dX10_digest_47 : decode cX10_digest 47 = .ok (.lmul, 1) := by decide +kernel
theorem dX10_digest_48 : decode cX10_digest 48 = .ok (.aload_n 0, 1) := by decide +kernel
theorem dX10_digest_49 : decode cX10_digest 49 = .ok (.getfield 25, 3) := by decide +kernel
theorem dX10_digest_52 : decode cX10_digest 52 = .ok (.iconst 1, 1) := by decide +kernel
theorem dX10_digest_53 : decode cX10_digest 53 = .ok (.iaload, 1) := by decide +kernel
theorem dX10_digest_54 : decode cX10_digest 54 = .ok (.i2l, 1) := by decide +kernel
theorem dX10_digest_55 : decode cX10_digest 55 = .ok (.ladd, 1) := by decide +kernel
theorem dX10_digest_56 : decode cX10_digest 56 = .ok (.lstore_n 1, 1) := by decide +kernel
theorem dX10_digest_57 : decode cX10_digest 57 = .ok (.iconst 0, 1) := by decide +kernel
theorem dX10_digest_58 : decode cX10_digest 58 = .ok (.istore_n 3, 1) := by decide +kernel
theorem dX10_digest_59 : decode cX10_digest 59 = .ok (.iload_n 3, 1) := by decide +kernel
theorem dX10_digest_60 : decode cX10_digest 60 = .ok (.aload_n 0, 1) := by decide +kernel
theorem dX10_digest_61 : decode cX10_digest 61 = .ok (.getfield 104, 3) := by decide +kernel
theorem dX10_digest_64 : decode cX10_digest 64 = .ok (.if_icmp .ge 39, 3) := by decide +kernel
theorem dX10_digest_67 : decode cX10_digest 67 = .ok (.iconst 0, 1) := by decide +kernel
theorem dX10_digest_68 : decode cX10_digest 68 = .ok (.istore 4, 2) := by decide +kernel
theorem dX10_digest_70 : decode cX10_digest 70 = .ok (.iload 4, 2) := by decide +kernel
theorem dX10_digest_72 : decode cX10_digest 72 = .ok (.iconst 4, 1) := by decide +kernel
theorem dX10_digest_73 : decode cX10_digest 73 = .ok (.if_icmp .ge 24, 3) := by decide +kernel
theorem dX10_digest_76 : decode cX10_digest 76 = .ok (.ldc2_w 315, 3) := by decide +kernel
theorem dX10_digest_79 : decode cX10_digest 79 = .ok (.lload_n 1, 1) := by decide +kernel
theorem dX10_digest_80 : decode cX10_digest 80 = .ok (.lmul, 1) := by decide +kernel
theorem dX10_digest_81 : decode cX10_digest 81 = .ok (.aload_n 0, 1) := by decide +kernel
theorem dX10_digest_82 : decode cX10_digest 82 = .ok (.iload_n 3, 1) := by decide +kernel
theorem dX10_digest_83 : decode cX10_digest 83 = .ok (.iload 4, 2) := by decide +kernel
theorem dX10_digest_85 : decode cX10_digest 85 = .ok (.invokevirtual 201, 3) := by decide +kernel
theorem dX10_digest_88 : decode cX10_digest 88 = .ok (.i2l, 1) := by decide +kernel
theorem dX10_digest_89 : decode cX10_digest 89 = .ok (.ladd, 1) := by decide +kernel
theorem dX10_digest_90 : decode cX10_digest 90 = .ok (.lstore_n 1, 1) := by decide +kernel
theorem dX10_digest_91 : decode cX10_digest 91 = .ok (.iinc 4 1, 3) := by decide +kernel
theorem dX10_digest_94 : decode cX10_digest 94 = .ok (.goto (-24), 3) := by decide +kernel
theorem dX10_digest_97 : decode cX10_digest 97 = .ok (.iinc 3 1, 3) := by decide +kernel
theorem dX10_digest_100 : decode cX10_digest 100 = .ok (.goto (-41), 3) := by decide +kernel
theorem dX10_digest_103 : decode cX10_digest 103 = .ok (.iconst 0, 1) := by decide +kernel
theorem dX10_digest_104 : decode cX10_digest 104 = .ok (.istore_n 3, 1) := by decide +kernel
theorem dX10_digest_105 : decode cX10_digest 105 = .ok (.iload_n 3, 1) := by decide +kernel
theorem dX10_digest_106 : decode cX10_digest 106 = .ok (.aload_n 0, 1) := by decide +kernel
theorem dX10_digest_107 : decode cX10_digest 107 = .ok (.getfield 107, 3) := by decide +kernel
theorem dX10_digest_110 : decode cX10_digest 110 = .ok (.if_icmp .ge 39, 3) := by decide +kernel
theorem dX10_digest_113 : decode cX10_digest 113 = .ok (.iconst 0, 1) := by decide +kernel
theorem dX10_digest_114 : decode cX10_digest 114 = .ok (.istore 4, 2) := by decide +kernel
theorem dX10_digest_116 : decode cX10_digest 116 = .ok (.iload 4, 2) := by decide +kernel
theorem dX10_digest_118 : decode cX10_digest 118 = .ok (.iconst 5, 1) := by decide +kernel
theorem dX10_digest_119 : decode cX10_digest 119 = .ok (.if_icmp .ge 24, 3) := by decide +kernel
theorem dX10_digest_122 : decode cX10_digest 122 = .ok (.ldc2_w 315, 3) := by decide +kernel
theorem dX10_digest_125 : decode cX10_digest 125 = .ok (.lload_n 1, 1) := by decide +kernel
theorem dX10_digest_126 : decode cX10_digest 126 = .ok (.lmul, 1) := by decide +kernel
theorem dX10_digest_127 : decode cX10_digest 127 = .ok (.aload_n 0, 1) := by decide +kernel
theorem dX10_digest_128 : decode cX10_digest 128 = .ok (.iload_n 3, 1) := by decide +kernel
theorem dX10_digest_129 : decode cX10_digest 129 = .ok (.iload 4, 2) := by decide +kernel
theorem dX10_digest_131 : decode cX10_digest 131 = .ok (.invokevirtual 210, 3) := by decide +kernel
theorem dX10_digest_134 : decode cX10_digest 134 = .ok (.i2l, 1) := by decide +kernel
theorem dX10_digest_135 : decode cX10_digest 135 = .ok (.ladd, 1) := by decide +kernel
theorem dX10_digest_136 : decode cX10_digest 136 = .ok (.lstore_n 1, 1) := by decide +kernel
theorem dX10_digest_137 : decode cX10_digest 137 = .ok (.iinc 4 1, 3) := by decide +kernel
theorem dX10_digest_140 : decode cX10_digest 140 = .ok (.goto (-24), 3) := by decide +kernel
theorem dX10_digest_143 : decode cX10_digest 143 = .ok (.iinc 3 1, 3) := by decide +kernel
theorem dX10_digest_146 : decode cX10_digest 146 = .ok (.goto (-41), 3) := by decide +kernel
theorem dX10_digest_149 : decode cX10_digest 149 = .ok (.iconst 0, 1) := by decide +kernel
theorem dX10_digest_150 : decode cX10_digest 150 = .ok (.istore_n 3, 1) := by decide +kernel
theorem dX10_digest_151 : decode cX10_digest 151 = .ok (.iload_n 3, 1) := by decide +kernel
theorem dX10_digest_152 : decode cX10_digest 152 = .ok (.iconst 3, 1) := by decide +kernel
theorem dX10_digest_153 : decode cX10_digest 153 = .ok (.if_icmp .ge 23, 3) := by decide +kernel
theorem dX10_digest_156 : decode cX10_digest 156 = .ok (.ldc2_w 315, 3) := by decide +kernel
theorem dX10_digest_159 : decode cX10_digest 159 = .ok (.lload_n 1, 1) := by decide +kernel
theorem dX10_digest_160 : decode cX10_digest 160 = .ok (.lmul, 1) := by decide +kernel
theorem dX10_digest_161 : decode cX10_digest 161 = .ok (.aload_n 0, 1) := by decide +kernel
theorem dX10_digest_162 : decode cX10_digest 162 = .ok (.getfield 50, 3) := by decide +kernel
theorem dX10_digest_165 : decode cX10_digest 165 = .ok (.iload_n 3, 1) := by decide +kernel
theorem dX10_digest_166 : decode cX10_digest 166 = .ok (.iaload, 1) := by decide +kernel
theorem dX10_digest_167 : decode cX10_digest 167 = .ok (.i2l, 1) := by decide +kernel
theorem dX10_digest_168 : decode cX10_digest 168 = .ok (.ladd, 1) := by decide +kernel
theorem dX10_digest_169 : decode cX10_digest 169 = .ok (.lstore_n 1, 1) := by decide +kernel
theorem dX10_digest_170 : decode cX10_digest 170 = .ok (.iinc 3 1, 3) := by decide +kernel
theorem dX10_digest_173 : decode cX10_digest 173 = .ok (.goto (-22), 3) := by decide +kernel
theorem dX10_digest_176 : decode cX10_digest 176 = .ok (.iconst 0, 1) := by decide +kernel
theorem dX10_digest_177 : decode cX10_digest 177 = .ok (.istore_n 3, 1) := by decide +kernel
theorem dX10_digest_178 : decode cX10_digest 178 = .ok (.iload_n 3, 1) := by decide +kernel
theorem dX10_digest_179 : decode cX10_digest 179 = .ok (.bipush 6, 2) := by decide +kernel
theorem dX10_digest_181 : decode cX10_digest 181 = .ok (.if_icmp .ge 63, 3) := by decide +kernel
theorem dX10_digest_184 : decode cX10_digest 184 = .ok (.ldc2_w 315, 3) := by decide +kernel
theorem dX10_digest_187 : decode cX10_digest 187 = .ok (.lload_n 1, 1) := by decide +kernel
theorem dX10_digest_188 : decode cX10_digest 188 = .ok (.lmul, 1) := by decide +kernel
theorem dX10_digest_189 : decode cX10_digest 189 = .ok (.aload_n 0, 1) := by decide +kernel
theorem dX10_digest_190 : decode cX10_digest 190 = .ok (.getfield 38, 3) := by decide +kernel
theorem dX10_digest_193 : decode cX10_digest 193 = .ok (.iload_n 3, 1) := by decide +kernel
theorem dX10_digest_194 : decode cX10_digest 194 = .ok (.iaload, 1) := by decide +kernel
theorem dX10_digest_195 : decode cX10_digest 195 = .ok (.i2l, 1) := by decide +kernel
theorem dX10_digest_196 : decode cX10_digest 196 = .ok (.ladd, 1) := by decide +kernel
theorem dX10_digest_197 : decode cX10_digest 197 = .ok (.lstore_n 1, 1) := by decide +kernel
theorem dX10_digest_198 : decode cX10_digest 198 = .ok (.iconst 0, 1) := by decide +kernel
theorem dX10_digest_199 : decode cX10_digest 199 = .ok (.istore 4, 2) := by decide +kernel
theorem dX10_digest_201 : decode cX10_digest 201 = .ok (.iload 4, 2) := by decide +kernel
theorem dX10_digest_203 : decode cX10_digest 203 = .ok (.aload_n 0, 1) := by decide +kernel
theorem dX10_digest_204 : decode cX10_digest 204 = .ok (.getfield 38, 3) := by decide +kernel
theorem dX10_digest_207 : decode cX10_digest 207 = .ok (.iload_n 3, 1) := by decide +kernel
theorem dX10_digest_208 : decode cX10_digest 208 = .ok (.iaload, 1) := by decide +kernel
theorem dX10_digest_209 : decode cX10_digest 209 = .ok (.if_icmp .ge 29, 3) := by decide +kernel
theorem dX10_digest_212 : decode cX10_digest 212 = .ok (.ldc2_w 315, 3) := by decide +kernel
theorem dX10_digest_215 : decode cX10_digest 215 = .ok (.lload_n 1, 1) := by decide +kernel
theorem dX10_digest_216 : decode cX10_digest 216 = .ok (.lmul, 1) := by decide +kernel
theorem dX10_digest_217 : decode cX10_digest 217 = .ok (.aload_n 0, 1) := by decide +kernel
theorem dX10_digest_218 : decode cX10_digest 218 = .ok (.getfield 41, 3) := by decide +kernel
theorem dX10_digest_221 : decode cX10_digest 221 = .ok (.bipush 40, 2) := by decide +kernel
theorem dX10_digest_223 : decode cX10_digest 223 = .ok (.iload_n 3, 1) := by decide +kernel
theorem dX10_digest_224 : decode cX10_digest 224 = .ok (.imul, 1) := by decide +kernel
theorem dX10_digest_225 : decode cX10_digest 225 = .ok (.iload 4, 2) := by decide +kernel
theorem dX10_digest_227 : decode cX10_digest 227 = .ok (.iadd, 1) := by decide +kernel
theorem dX10_digest_228 : decode cX10_digest 228 = .ok (.iaload, 1) := by decide +kernel
theorem dX10_digest_229 : decode cX10_digest 229 = .ok (.i2l, 1) := by decide +kernel
theorem dX10_digest_230 : decode cX10_digest 230 = .ok (.ladd, 1) := by decide +kernel
theorem dX10_digest_231 : decode cX10_digest 231 = .ok (.lstore_n 1, 1) := by decide +kernel
theorem dX10_digest_232 : decode cX10_digest 232 = .ok (.iinc 4 1, 3) := by decide +kernel
theorem dX10_digest_235 : decode cX10_digest 235 = .ok (.goto (-34), 3) := by decide +kernel
theorem dX10_digest_238 : decode cX10_digest 238 = .ok (.iinc 3 1, 3) := by decide +kernel
theorem dX10_digest_241 : decode cX10_digest 241 = .ok (.goto (-63), 3) := by decide +kernel
theorem dX10_digest_244 : decode cX10_digest 244 = .ok (.iconst 0, 1) := by decide +kernel
theorem dX10_digest_245 : decode cX10_digest 245 = .ok (.istore_n 3, 1) := by decide +kernel
theorem dX10_digest_246 : decode cX10_digest 246 = .ok (.iload_n 3, 1) := by decide +kernel
theorem dX10_digest_247 : decode cX10_digest 247 = .ok (.iconst 4, 1) := by decide +kernel
theorem dX10_digest_248 : decode cX10_digest 248 = .ok (.if_icmp .ge 63, 3) := by decide +kernel
theorem dX10_digest_251 : decode cX10_digest 251 = .ok (.ldc2_w 315, 3) := by decide +kernel
theorem dX10_digest_254 : decode cX10_digest 254 = .ok (.lload_n 1, 1) := by decide +kernel
theorem dX10_digest_255 : decode cX10_digest 255 = .ok (.lmul, 1) := by decide +kernel
theorem dX10_digest_256 : decode cX10_digest 256 = .ok (.aload_n 0, 1) := by decide +kernel
theorem dX10_digest_257 : decode cX10_digest 257 = .ok (.getfield 44, 3) := by decide +kernel
theorem dX10_digest_260 : decode cX10_digest 260 = .ok (.iload_n 3, 1) := by decide +kernel
theorem dX10_digest_261 : decode cX10_digest 261 = .ok (.iaload, 1) := by decide +kernel
theorem dX10_digest_262 : decode cX10_digest 262 = .ok (.i2l, 1) := by decide +kernel
theorem dX10_digest_263 : decode cX10_digest 263 = .ok (.ladd, 1) := by decide +kernel
theorem dX10_digest_264 : decode cX10_digest 264 = .ok (.lstore_n 1, 1) := by decide +kernel
theorem dX10_digest_265 : decode cX10_digest 265 = .ok (.iconst 0, 1) := by decide +kernel
theorem dX10_digest_266 : decode cX10_digest 266 = .ok (.istore 4, 2) := by decide +kernel
theorem dX10_digest_268 : decode cX10_digest 268 = .ok (.iload 4, 2) := by decide +kernel
theorem dX10_digest_270 : decode cX10_digest 270 = .ok (.aload_n 0, 1) := by decide +kernel
theorem dX10_digest_271 : decode cX10_digest 271 = .ok (.getfield 44, 3) := by decide +kernel
theorem dX10_digest_274 : decode cX10_digest 274 = .ok (.iload_n 3, 1) := by decide +kernel
theorem dX10_digest_275 : decode cX10_digest 275 = .ok (.iaload, 1) := by decide +kernel
theorem dX10_digest_276 : decode cX10_digest 276 = .ok (.if_icmp .ge 29, 3) := by decide +kernel
theorem dX10_digest_279 : decode cX10_digest 279 = .ok (.ldc2_w 315, 3) := by decide +kernel
theorem dX10_digest_282 : decode cX10_digest 282 = .ok (.lload_n 1, 1) := by decide +kernel
theorem dX10_digest_283 : decode cX10_digest 283 = .ok (.lmul, 1) := by decide +kernel
theorem dX10_digest_284 : decode cX10_digest 284 = .ok (.aload_n 0, 1) := by decide +kernel
theorem dX10_digest_285 : decode cX10_digest 285 = .ok (.getfield 47, 3) := by decide +kernel
theorem dX10_digest_288 : decode cX10_digest 288 = .ok (.bipush 60, 2) := by decide +kernel
theorem dX10_digest_290 : decode cX10_digest 290 = .ok (.iload_n 3, 1) := by decide +kernel
theorem dX10_digest_291 : decode cX10_digest 291 = .ok (.imul, 1) := by decide +kernel
theorem dX10_digest_292 : decode cX10_digest 292 = .ok (.iload 4, 2) := by decide +kernel
theorem dX10_digest_294 : decode cX10_digest 294 = .ok (.iadd, 1) := by decide +kernel
theorem dX10_digest_295 : decode cX10_digest 295 = .ok (.iaload, 1) := by decide +kernel
theorem dX10_digest_296 : decode cX10_digest 296 = .ok (.i2l, 1) := by decide +kernel
theorem dX10_digest_297 : decode cX10_digest 297 = .ok (.ladd, 1) := by decide +kernel
theorem dX10_digest_298 : decode cX10_digest 298 = .ok (.lstore_n 1, 1) := by decide +kernel
theorem dX10_digest_299 : decode cX10_digest 299 = .ok (.iinc 4 1, 3) := by decide +kernel
theorem dX10_digest_302 : decode cX10_digest 302 = .ok (.goto (-34), 3) := by decide +kernel
theorem dX10_digest_305 : decode cX10_digest 305 = .ok (.iinc 3 1, 3) := by decide +kernel
theorem dX10_digest_308 : decode cX10_digest 308 = .ok (.goto (-62), 3) := by decide +kernel
theorem dX10_digest_311 : decode cX10_digest 311 = .ok (.lload_n 1, 1) := by decide +kernel
theorem dX10_digest_312 : decode cX10_digest 312 = .ok (.lreturn, 1) := by decide +kernel
theorem dJ6_bitCount_0f7a4_0 : decode cJ6_bitCount_0f7a4 0 = .ok (.iload_n 0, 1) := by decide +kernel
theorem dJ6_bitCount_0f7a4_1 : decode cJ6_bitCount_0f7a4 1 = .ok (.iload_n 0, 1) := by decide +kernel
theorem dJ6_bitCount_0f7a4_2 : decode cJ6_bitCount_0f7a4 2 = .ok (.iconst 1, 1) := by decide +kernel
theorem dJ6_bitCount_0f7a4_3 : decode cJ6_bitCount_0f7a4 3 = .ok (.iushr, 1) := by decide +kernel
theorem dJ6_bitCount_0f7a4_4 : decode cJ6_bitCount_0f7a4 4 = .ok (.ldc_w 265, 3) := by decide +kernel
theorem dJ6_bitCount_0f7a4_7 : decode cJ6_bitCount_0f7a4 7 = .ok (.iand, 1) := by decide +kernel
theorem dJ6_bitCount_0f7a4_8 : decode cJ6_bitCount_0f7a4 8 = .ok (.isub, 1) := by decide +kernel
theorem dJ6_bitCount_0f7a4_9 : decode cJ6_bitCount_0f7a4 9 = .ok (.istore_n 0, 1) := by decide +kernel
theorem dJ6_bitCount_0f7a4_10 : decode cJ6_bitCount_0f7a4 10 = .ok (.iload_n 0, 1) := by decide +kernel
theorem dJ6_bitCount_0f7a4_11 : decode cJ6_bitCount_0f7a4 11 = .ok (.ldc_w 266, 3) := by decide +kernel
theorem dJ6_bitCount_0f7a4_14 : decode cJ6_bitCount_0f7a4 14 = .ok (.iand, 1) := by decide +kernel
theorem dJ6_bitCount_0f7a4_15 : decode cJ6_bitCount_0f7a4 15 = .ok (.iload_n 0, 1) := by decide +kernel
theorem dJ6_bitCount_0f7a4_16 : decode cJ6_bitCount_0f7a4 16 = .ok (.iconst 2, 1) := by decide +kernel
theorem dJ6_bitCount_0f7a4_17 : decode cJ6_bitCount_0f7a4 17 = .ok (.iushr, 1) := by decide +kernel
theorem dJ6_bitCount_0f7a4_18 : decode cJ6_bitCount_0f7a4 18 = .ok (.ldc_w 266, 3) := by decide +kernel
theorem dJ6_bitCount_0f7a4_21 : decode cJ6_bitCount_0f7a4 21 = .ok (.iand, 1) := by decide +kernel
theorem dJ6_bitCount_0f7a4_22 : decode cJ6_bitCount_0f7a4 22 = .ok (.iadd, 1) := by decide +kernel
theorem dJ6_bitCount_0f7a4_23 : decode cJ6_bitCount_0f7a4 23 = .ok (.istore_n 0, 1) := by decide +kernel
theorem dJ6_bitCount_0f7a4_24 : decode cJ6_bitCount_0f7a4 24 = .ok (.iload_n 0, 1) := by decide +kernel
theorem dJ6_bitCount_0f7a4_25 : decode cJ6_bitCount_0f7a4 25 = .ok (.iload_n 0, 1) := by decide +kernel
theorem dJ6_bitCount_0f7a4_26 : decode cJ6_bitCount_0f7a4 26 = .ok (.iconst 4, 1) := by decide +kernel
theorem dJ6_bitCount_0f7a4_27 : decode cJ6_bitCount_0f7a4 27 = .ok (.iushr, 1) := by decide +kernel
theorem dJ6_bitCount_0f7a4_28 : decode cJ6_bitCount_0f7a4 28 = .ok (.iadd, 1) := by decide +kernel
theorem dJ6_bitCount_0f7a4_29 : decode cJ6_bitCount_0f7a4 29 = .ok (.ldc_w 267, 3) := by decide +kernel
theorem dJ6_bitCount_0f7a4_32 : decode cJ6_bitCount_0f7a4 32 = .ok (.iand, 1) := by decide +kernel
theorem dJ6_bitCount_0f7a4_33 : decode cJ6_bitCount_0f7a4 33 = .ok (.istore_n 0, 1) := by decide +kernel
theorem dJ6_bitCount_0f7a4_34 : decode cJ6_bitCount_0f7a4 34 = .ok (.iload_n 0, 1) := by decide +kernel
theorem dJ6_bitCount_0f7a4_35 : decode cJ6_bitCount_0f7a4 35 = .ok (.iload_n 0, 1) := by decide +kernel
theorem dJ6_bitCount_0f7a4_36 : decode cJ6_bitCount_0f7a4 36 = .ok (.bipush 8, 2) := by decide +kernel
theorem dJ6_bitCount_0f7a4_38 : decode cJ6_bitCount_0f7a4 38 = .ok (.iushr, 1) := by decide +kernel
theorem dJ6_bitCount_0f7a4_39 : decode cJ6_bitCount_0f7a4 39 = .ok (.iadd, 1) := by decide +kernel
theorem dJ6_bitCount_0f7a4_40 : decode cJ6_bitCount_0f7a4 40 = .ok (.istore_n 0, 1) := by decide +kernel
theorem dJ6_bitCount_0f7a4_41 : decode cJ6_bitCount_0f7a4 41 = .ok (.iload_n 0, 1) := by decide +kernel
theorem dJ6_bitCount_0f7a4_42 : decode cJ6_bitCount_0f7a4 42 = .ok (.iload_n 0, 1) := by decide +kernel
theorem dJ6_bitCount_0f7a4_43 : decode cJ6_bitCount_0f7a4 43 = .ok (.bipush 16, 2) := by decide +kernel
theorem dJ6_bitCount_0f7a4_45 : decode cJ6_bitCount_0f7a4 45 = .ok (.iushr, 1) := by decide +kernel
theorem dJ6_bitCount_0f7a4_46 : decode cJ6_bitCount_0f7a4 46 = .ok (.iadd, 1) := by decide +kernel
theorem dJ6_bitCount_0f7a4_47 : decode cJ6_bitCount_0f7a4 47 = .ok (.istore_n 0, 1) := by decide +kernel
theorem dJ6_bitCount_0f7a4_48 : decode cJ6_bitCount_0f7a4 48 = .ok (.iload_n 0, 1) := by decide +kernel
theorem dJ6_bitCount_0f7a4_49 : decode cJ6_bitCount_0f7a4 49 = .ok (.bipush 63, 2) := by decide +kernel
theorem dJ6_bitCount_0f7a4_51 : decode cJ6_bitCount_0f7a4 51 = .ok (.iand, 1) := by decide +kernel
theorem dJ6_bitCount_0f7a4_52 : decode cJ6_bitCount_0f7a4 52 = .ok (.ireturn, 1) := by decide +kernel
theorem dJ9_max_7cf53_0 : decode cJ9_max_7cf53 0 = .ok (.iload_n 0, 1) := by decide +kernel
theorem dJ9_max_7cf53_1 : decode cJ9_max_7cf53 1 = .ok (.iload_n 1, 1) := by decide +kernel
theorem dJ9_max_7cf53_2 : decode cJ9_max_7cf53 2 = .ok (.if_icmp .lt 7, 3) := by decide +kernel
theorem dJ9_max_7cf53_5 : decode cJ9_max_7cf53 5 = .ok (.iload_n 0, 1) := by decide +kernel
theorem dJ9_max_7cf53_6 : decode cJ9_max_7cf53 6 = .ok (.goto 4, 3) := by decide +kernel
theorem dJ9_max_7cf53_9 : decode cJ9_max_7cf53 9 = .ok (.iload_n 1, 1) := by decide +kernel
theorem dJ9_max_7cf53_10 : decode cJ9_max_7cf53 10 = .ok (.ireturn, 1) := by decide +kernel
theorem dJ9_min_7cf53_0 : decode cJ9_min_7cf53 0 = .ok (.iload_n 0, 1) := by decide +kernel
theorem dJ9_min_7cf53_1 : decode cJ9_min_7cf53 1 = .ok (.iload_n 1, 1) := by decide +kernel
theorem dJ9_min_7cf53_2 : decode cJ9_min_7cf53 2 = .ok (.if_icmp .gt 7, 3) := by decide +kernel
theorem dJ9_min_7cf53_5 : decode cJ9_min_7cf53 5 = .ok (.iload_n 0, 1) := by decide +kernel
theorem dJ9_min_7cf53_6 : decode cJ9_min_7cf53 6 = .ok (.goto 4, 3) := by decide +kernel
theorem dJ9_min_7cf53_9 : decode cJ9_min_7cf53 9 = .ok (.iload_n 1, 1) := by decide +kernel
theorem dJ9_min_7cf53_10 : decode cJ9_min_7cf53 10 = .ok (.ireturn, 1) := by decide +kernel
theorem dJ7_fill_53178_0 : decode cJ7_fill_53178 0 = .ok (.iconst 0, 1) := by decide +kernel
theorem dJ7_fill_53178_1 : decode cJ7_fill_53178 1 = .ok (.istore_n 2, 1) := by decide +kernel
theorem dJ7_fill_53178_2 : decode cJ7_fill_53178 2 = .ok (.aload_n 0, 1) := by decide +kernel
theorem dJ7_fill_53178_3 : decode cJ7_fill_53178 3 = .ok (.arraylength, 1) := by decide +kernel
theorem dJ7_fill_53178_4 : decode cJ7_fill_53178 4 = .ok (.istore_n 3, 1) := by decide +kernel
theorem dJ7_fill_53178_5 : decode cJ7_fill_53178 5 = .ok (.iload_n 2, 1) := by decide +kernel
theorem dJ7_fill_53178_6 : decode cJ7_fill_53178 6 = .ok (.iload_n 3, 1) := by decide +kernel
theorem dJ7_fill_53178_7 : decode cJ7_fill_53178 7 = .ok (.if_icmp .ge 13, 3) := by decide +kernel
theorem dJ7_fill_53178_10 : decode cJ7_fill_53178 10 = .ok (.aload_n 0, 1) := by decide +kernel
theorem dJ7_fill_53178_11 : decode cJ7_fill_53178 11 = .ok (.iload_n 2, 1) := by decide +kernel
theorem dJ7_fill_53178_12 : decode cJ7_fill_53178 12 = .ok (.iload_n 1, 1) := by decide +kernel
theorem dJ7_fill_53178_13 : decode cJ7_fill_53178 13 = .ok (.iastore, 1) := by decide +kernel
theorem dJ7_fill_53178_14 : decode cJ7_fill_53178 14 = .ok (.iinc 2 1, 3) := by decide +kernel
theorem dJ7_fill_53178_17 : decode cJ7_fill_53178 17 = .ok (.goto (-12), 3) := by decide +kernel
theorem dJ7_fill_53178_20 : decode cJ7_fill_53178 20 = .ok (.return_, 1) := by decide +kernel
theorem dJ7_fill_031fb_0 : decode cJ7_fill_031fb 0 = .ok (.iconst 0, 1) := by decide +kernel
theorem dJ7_fill_031fb_1 : decode cJ7_fill_031fb 1 = .ok (.istore_n 2, 1) := by decide +kernel
theorem dJ7_fill_031fb_2 : decode cJ7_fill_031fb 2 = .ok (.aload_n 0, 1) := by decide +kernel
theorem dJ7_fill_031fb_3 : decode cJ7_fill_031fb 3 = .ok (.arraylength, 1) := by decide +kernel
theorem dJ7_fill_031fb_4 : decode cJ7_fill_031fb 4 = .ok (.istore_n 3, 1) := by decide +kernel
theorem dJ7_fill_031fb_5 : decode cJ7_fill_031fb 5 = .ok (.iload_n 2, 1) := by decide +kernel
theorem dJ7_fill_031fb_6 : decode cJ7_fill_031fb 6 = .ok (.iload_n 3, 1) := by decide +kernel
theorem dJ7_fill_031fb_7 : decode cJ7_fill_031fb 7 = .ok (.if_icmp .ge 13, 3) := by decide +kernel
theorem dJ7_fill_031fb_10 : decode cJ7_fill_031fb 10 = .ok (.aload_n 0, 1) := by decide +kernel
theorem dJ7_fill_031fb_11 : decode cJ7_fill_031fb 11 = .ok (.iload_n 2, 1) := by decide +kernel
theorem dJ7_fill_031fb_12 : decode cJ7_fill_031fb 12 = .ok (.iload_n 1, 1) := by decide +kernel
theorem dJ7_fill_031fb_13 : decode cJ7_fill_031fb 13 = .ok (.bastore, 1) := by decide +kernel
theorem dJ7_fill_031fb_14 : decode cJ7_fill_031fb 14 = .ok (.iinc 2 1, 3) := by decide +kernel
theorem dJ7_fill_031fb_17 : decode cJ7_fill_031fb 17 = .ok (.goto (-12), 3) := by decide +kernel
theorem dJ7_fill_031fb_20 : decode cJ7_fill_031fb 20 = .ok (.return_, 1) := by decide +kernel
