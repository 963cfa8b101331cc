theorem dX6_areAlike_99 : decode cX6_areAlike 99 = .ok (.baload, 1) := by decide +kernel
theorem dX6_areAlike_100 : decode cX6_areAlike 100 = .ok (.aload_n 0, 1) := by decide +kernel
theorem dX6_areAlike_101 : decode cX6_areAlike 101 = .ok (.getfield 46, 3) := by decide +kernel
theorem dX6_areAlike_104 : decode cX6_areAlike 104 = .ok (.bipush 12, 2) := by decide +kernel
theorem dX6_areAlike_106 : decode cX6_areAlike 106 = .ok (.iload_n 2, 1) := by decide +kernel
theorem dX6_areAlike_107 : decode cX6_areAlike 107 = .ok (.imul, 1) := by decide +kernel
theorem dX6_areAlike_108 : decode cX6_areAlike 108 = .ok (.iload_n 3, 1) := by decide +kernel
theorem dX6_areAlike_109 : decode cX6_areAlike 109 = .ok (.iadd, 1) := by decide +kernel
theorem dX6_areAlike_110 : decode cX6_areAlike 110 = .ok (.baload, 1) := by decide +kernel
theorem dX6_areAlike_111 : decode cX6_areAlike 111 = .ok (.if_icmp .eq 5, 3) := by decide +kernel
theorem dX6_areAlike_114 : decode cX6_areAlike 114 = .ok (.iconst 0, 1) := by decide +kernel
theorem dX6_areAlike_115 : decode cX6_areAlike 115 = .ok (.ireturn, 1) := by decide +kernel
theorem dX6_areAlike_116 : decode cX6_areAlike 116 = .ok (.iinc 3 1, 3) := by decide +kernel
theorem dX6_areAlike_119 : decode cX6_areAlike 119 = .ok (.goto (-40), 3) := by decide +kernel
theorem dX6_areAlike_122 : decode cX6_areAlike 122 = .ok (.iconst 1, 1) := by decide +kernel
theorem dX6_areAlike_123 : decode cX6_areAlike 123 = .ok (.ireturn, 1) := by decide +kernel
theorem dX6_isStuck_0 : decode cX6_isStuck 0 = .ok (.iconst 0, 1) := by decide +kernel
theorem dX6_isStuck_1 : decode cX6_isStuck 1 = .ok (.istore_n 2, 1) := by decide +kernel
theorem dX6_isStuck_2 : decode cX6_isStuck 2 = .ok (.iconst 0, 1) := by decide +kernel
theorem dX6_isStuck_3 : decode cX6_isStuck 3 = .ok (.istore_n 3, 1) := by decide +kernel
theorem dX6_isStuck_4 : decode cX6_isStuck 4 = .ok (.iconst 0, 1) := by decide +kernel
theorem dX6_isStuck_5 : decode cX6_isStuck 5 = .ok (.istore 4, 2) := by decide +kernel
theorem dX6_isStuck_7 : decode cX6_isStuck 7 = .ok (.iload 4, 2) := by decide +kernel
theorem dX6_isStuck_9 : decode cX6_isStuck 9 = .ok (.aload_n 0, 1) := by decide +kernel
theorem dX6_isStuck_10 : decode cX6_isStuck 10 = .ok (.getfield 136, 3) := by decide +kernel
theorem dX6_isStuck_13 : decode cX6_isStuck 13 = .ok (.if_icmp .ge 53, 3) := by decide +kernel
theorem dX6_isStuck_16 : decode cX6_isStuck 16 = .ok (.bipush 24, 2) := by decide +kernel
theorem dX6_isStuck_18 : decode cX6_isStuck 18 = .ok (.iload 4, 2) := by decide +kernel
theorem dX6_isStuck_20 : decode cX6_isStuck 20 = .ok (.imul, 1) := by decide +kernel
theorem dX6_isStuck_21 : decode cX6_isStuck 21 = .ok (.iload_n 1, 1) := by decide +kernel
theorem dX6_isStuck_22 : decode cX6_isStuck 22 = .ok (.iadd, 1) := by decide +kernel
theorem dX6_isStuck_23 : decode cX6_isStuck 23 = .ok (.istore 5, 2) := by decide +kernel
theorem dX6_isStuck_25 : decode cX6_isStuck 25 = .ok (.aload_n 0, 1) := by decide +kernel
theorem dX6_isStuck_26 : decode cX6_isStuck 26 = .ok (.getfield 27, 3) := by decide +kernel
theorem dX6_isStuck_29 : decode cX6_isStuck 29 = .ok (.iload 5, 2) := by decide +kernel
theorem dX6_isStuck_31 : decode cX6_isStuck 31 = .ok (.baload, 1) := by decide +kernel
theorem dX6_isStuck_32 : decode cX6_isStuck 32 = .ok (.ifCond .ne 6, 3) := by decide +kernel
theorem dX6_isStuck_35 : decode cX6_isStuck 35 = .ok (.goto 25, 3) := by decide +kernel
theorem dX6_isStuck_38 : decode cX6_isStuck 38 = .ok (.iload_n 2, 1) := by decide +kernel
theorem dX6_isStuck_39 : decode cX6_isStuck 39 = .ok (.ifCond .le 15, 3) := by decide +kernel
theorem dX6_isStuck_42 : decode cX6_isStuck 42 = .ok (.aload_n 0, 1) := by decide +kernel
theorem dX6_isStuck_43 : decode cX6_isStuck 43 = .ok (.iload_n 3, 1) := by decide +kernel
theorem dX6_isStuck_44 : decode cX6_isStuck 44 = .ok (.iload 5, 2) := by decide +kernel
theorem dX6_isStuck_46 : decode cX6_isStuck 46 = .ok (.invokevirtual 175, 3) := by decide +kernel
theorem dX6_isStuck_49 : decode cX6_isStuck 49 = .ok (.ifCond .ne 5, 3) := by decide +kernel
theorem dX6_isStuck_52 : decode cX6_isStuck 52 = .ok (.iconst 0, 1) := by decide +kernel
theorem dX6_isStuck_53 : decode cX6_isStuck 53 = .ok (.ireturn, 1) := by decide +kernel
theorem dX6_isStuck_54 : decode cX6_isStuck 54 = .ok (.iload 5, 2) := by decide +kernel
theorem dX6_isStuck_56 : decode cX6_isStuck 56 = .ok (.istore_n 3, 1) := by decide +kernel
theorem dX6_isStuck_57 : decode cX6_isStuck 57 = .ok (.iinc 2 1, 3) := by decide +kernel
theorem dX6_isStuck_60 : decode cX6_isStuck 60 = .ok (.iinc 4 1, 3) := by decide +kernel
theorem dX6_isStuck_63 : decode cX6_isStuck 63 = .ok (.goto (-56), 3) := by decide +kernel
theorem dX6_isStuck_66 : decode cX6_isStuck 66 = .ok (.iload_n 2, 1) := by decide +kernel
theorem dX6_isStuck_67 : decode cX6_isStuck 67 = .ok (.iconst 1, 1) := by decide +kernel
theorem dX6_isStuck_68 : decode cX6_isStuck 68 = .ok (.if_icmp .le 7, 3) := by decide +kernel
theorem dX6_isStuck_71 : decode cX6_isStuck 71 = .ok (.iconst 1, 1) := by decide +kernel
theorem dX6_isStuck_72 : decode cX6_isStuck 72 = .ok (.goto 4, 3) := by decide +kernel
theorem dX6_isStuck_75 : decode cX6_isStuck 75 = .ok (.iconst 0, 1) := by decide +kernel
theorem dX6_isStuck_76 : decode cX6_isStuck 76 = .ok (.ireturn, 1) := by decide +kernel
theorem dX6_stuck_0 : decode cX6_stuck 0 = .ok (.iconst 0, 1) := by decide +kernel
theorem dX6_stuck_1 : decode cX6_stuck 1 = .ok (.istore_n 2, 1) := by decide +kernel
theorem dX6_stuck_2 : decode cX6_stuck 2 = .ok (.iconst 0, 1) := by decide +kernel
theorem dX6_stuck_3 : decode cX6_stuck 3 = .ok (.istore_n 3, 1) := by decide +kernel
theorem dX6_stuck_4 : decode cX6_stuck 4 = .ok (.iload_n 3, 1) := by decide +kernel
theorem dX6_stuck_5 : decode cX6_stuck 5 = .ok (.bipush 24, 2) := by decide +kernel
theorem dX6_stuck_7 : decode cX6_stuck 7 = .ok (.if_icmp .ge 34, 3) := by decide +kernel
theorem dX6_stuck_10 : decode cX6_stuck 10 = .ok (.iload_n 1, 1) := by decide +kernel
theorem dX6_stuck_11 : decode cX6_stuck 11 = .ok (.ifCond .lt 30, 3) := by decide +kernel
theorem dX6_stuck_14 : decode cX6_stuck 14 = .ok (.aload_n 0, 1) := by decide +kernel
theorem dX6_stuck_15 : decode cX6_stuck 15 = .ok (.iload_n 3, 1) := by decide +kernel
theorem dX6_stuck_16 : decode cX6_stuck 16 = .ok (.invokevirtual 178, 3) := by decide +kernel
theorem dX6_stuck_19 : decode cX6_stuck 19 = .ok (.ifCond .ne 6, 3) := by decide +kernel
theorem dX6_stuck_22 : decode cX6_stuck 22 = .ok (.goto 13, 3) := by decide +kernel
theorem dX6_stuck_25 : decode cX6_stuck 25 = .ok (.iload_n 2, 1) := by decide +kernel
theorem dX6_stuck_26 : decode cX6_stuck 26 = .ok (.iload_n 1, 1) := by decide +kernel
theorem dX6_stuck_27 : decode cX6_stuck 27 = .ok (.if_icmp .ne 5, 3) := by decide +kernel
theorem dX6_stuck_30 : decode cX6_stuck 30 = .ok (.iload_n 3, 1) := by decide +kernel
theorem dX6_stuck_31 : decode cX6_stuck 31 = .ok (.ireturn, 1) := by decide +kernel
theorem dX6_stuck_32 : decode cX6_stuck 32 = .ok (.iinc 2 1, 3) := by decide +kernel
theorem dX6_stuck_35 : decode cX6_stuck 35 = .ok (.iinc 3 1, 3) := by decide +kernel
theorem dX6_stuck_38 : decode cX6_stuck 38 = .ok (.goto (-34), 3) := by decide +kernel
theorem dX6_stuck_41 : decode cX6_stuck 41 = .ok (.iconst (-1), 1) := by decide +kernel
theorem dX6_stuck_42 : decode cX6_stuck 42 = .ok (.ireturn, 1) := by decide +kernel
theorem dX6_aheads_0 : decode cX6_aheads 0 = .ok (.iconst 0, 1) := by decide +kernel
theorem dX6_aheads_1 : decode cX6_aheads 1 = .ok (.istore_n 1, 1) := by decide +kernel
theorem dX6_aheads_2 : decode cX6_aheads 2 = .ok (.iload_n 1, 1) := by decide +kernel
theorem dX6_aheads_3 : decode cX6_aheads 3 = .ok (.bipush 16, 2) := by decide +kernel
theorem dX6_aheads_5 : decode cX6_aheads 5 = .ok (.if_icmp .ge 16, 3) := by decide +kernel
theorem dX6_aheads_8 : decode cX6_aheads 8 = .ok (.aload_n 0, 1) := by decide +kernel
theorem dX6_aheads_9 : decode cX6_aheads 9 = .ok (.getfield 52, 3) := by decide +kernel
theorem dX6_aheads_12 : decode cX6_aheads 12 = .ok (.iload_n 1, 1) := by decide +kernel
theorem dX6_aheads_13 : decode cX6_aheads 13 = .ok (.iconst 0, 1) := by decide +kernel
theorem dX6_aheads_14 : decode cX6_aheads 14 = .ok (.iastore, 1) := by decide +kernel
theorem dX6_aheads_15 : decode cX6_aheads 15 = .ok (.iinc 1 1, 3) := by decide +kernel
theorem dX6_aheads_18 : decode cX6_aheads 18 = .ok (.goto (-16), 3) := by decide +kernel
theorem dX6_aheads_21 : decode cX6_aheads 21 = .ok (.iconst 0, 1) := by decide +kernel
theorem dX6_aheads_22 : decode cX6_aheads 22 = .ok (.istore_n 1, 1) := by decide +kernel
theorem dX6_aheads_23 : decode cX6_aheads 23 = .ok (.iload_n 1, 1) := by decide +kernel
theorem dX6_aheads_24 : decode cX6_aheads 24 = .ok (.bipush 24, 2) := by decide +kernel
theorem dX6_aheads_26 : decode cX6_aheads 26 = .ok (.aload_n 0, 1) := by decide +kernel
theorem dX6_aheads_27 : decode cX6_aheads 27 = .ok (.getfield 136, 3) := by decide +kernel
theorem dX6_aheads_30 : decode cX6_aheads 30 = .ok (.imul, 1) := by decide +kernel
theorem dX6_aheads_31 : decode cX6_aheads 31 = .ok (.if_icmp .ge 86, 3) := by decide +kernel
theorem dX6_aheads_34 : decode cX6_aheads 34 = .ok (.aload_n 0, 1) := by decide +kernel
theorem dX6_aheads_35 : decode cX6_aheads 35 = .ok (.getfield 27, 3) := by decide +kernel
theorem dX6_aheads_38 : decode cX6_aheads 38 = .ok (.iload_n 1, 1) := by decide +kernel
theorem dX6_aheads_39 : decode cX6_aheads 39 = .ok (.baload, 1) := by decide +kernel
theorem dX6_aheads_40 : decode cX6_aheads 40 = .ok (.ifCond .eq 71, 3) := by decide +kernel
theorem dX6_aheads_43 : decode cX6_aheads 43 = .ok (.aload_n 0, 1) := by decide +kernel
theorem dX6_aheads_44 : decode cX6_aheads 44 = .ok (.getfield 40, 3) := by decide +kernel
theorem dX6_aheads_47 : decode cX6_aheads 47 = .ok (.iload_n 1, 1) := by decide +kernel
theorem dX6_aheads_48 : decode cX6_aheads 48 = .ok (.iaload, 1) := by decide +kernel
theorem dX6_aheads_49 : decode cX6_aheads 49 = .ok (.iconst (-1), 1) := by decide +kernel
theorem dX6_aheads_50 : decode cX6_aheads 50 = .ok (.if_icmp .ne 6, 3) := by decide +kernel
theorem dX6_aheads_53 : decode cX6_aheads 53 = .ok (.goto 58, 3) := by decide +kernel
theorem dX6_aheads_56 : decode cX6_aheads 56 = .ok (.iconst 0, 1) := by decide +kernel
theorem dX6_aheads_57 : decode cX6_aheads 57 = .ok (.istore_n 2, 1) := by decide +kernel
theorem dX6_aheads_58 : decode cX6_aheads 58 = .ok (.iload_n 2, 1) := by decide +kernel
theorem dX6_aheads_59 : decode cX6_aheads 59 = .ok (.bipush 16, 2) := by decide +kernel
theorem dX6_aheads_61 : decode cX6_aheads 61 = .ok (.if_icmp .ge 50, 3) := by decide +kernel
theorem dX6_aheads_64 : decode cX6_aheads 64 = .ok (.iload_n 2, 1) := by decide +kernel
theorem dX6_aheads_65 : decode cX6_aheads 65 = .ok (.aload_n 0, 1) := by decide +kernel
theorem dX6_aheads_66 : decode cX6_aheads 66 = .ok (.getfield 40, 3) := by decide +kernel
theorem dX6_aheads_69 : decode cX6_aheads 69 = .ok (.iload_n 1, 1) := by decide +kernel
theorem dX6_aheads_70 : decode cX6_aheads 70 = .ok (.iaload, 1) := by decide +kernel
theorem dX6_aheads_71 : decode cX6_aheads 71 = .ok (.if_icmp .eq 34, 3) := by decide +kernel
theorem dX6_aheads_74 : decode cX6_aheads 74 = .ok (.aload_n 0, 1) := by decide +kernel
theorem dX6_aheads_75 : decode cX6_aheads 75 = .ok (.getfield 37, 3) := by decide +kernel
theorem dX6_aheads_78 : decode cX6_aheads 78 = .ok (.iload_n 1, 1) := by decide +kernel
theorem dX6_aheads_79 : decode cX6_aheads 79 = .ok (.iaload, 1) := by decide +kernel
theorem dX6_aheads_80 : decode cX6_aheads 80 = .ok (.iload_n 2, 1) := by decide +kernel
theorem dX6_aheads_81 : decode cX6_aheads 81 = .ok (.ishr, 1) := by decide +kernel
theorem dX6_aheads_82 : decode cX6_aheads 82 = .ok (.iconst 1, 1) := by decide +kernel
theorem dX6_aheads_83 : decode cX6_aheads 83 = .ok (.iand, 1) := by decide +kernel
theorem dX6_aheads_84 : decode cX6_aheads 84 = .ok (.iconst 1, 1) := by decide +kernel
theorem dX6_aheads_85 : decode cX6_aheads 85 = .ok (.if_icmp .ne 20, 3) := by decide +kernel
theorem dX6_aheads_88 : decode cX6_aheads 88 = .ok (.aload_n 0, 1) := by decide +kernel
theorem dX6_aheads_89 : decode cX6_aheads 89 = .ok (.getfield 52, 3) := by decide +kernel
theorem dX6_aheads_92 : decode cX6_aheads 92 = .ok (.iload_n 2, 1) := by decide +kernel
theorem dX6_aheads_93 : decode cX6_aheads 93 = .ok (.dup2, 1) := by decide +kernel
theorem dX6_aheads_94 : decode cX6_aheads 94 = .ok (.iaload, 1) := by decide +kernel
theorem dX6_aheads_95 : decode cX6_aheads 95 = .ok (.iconst 1, 1) := by decide +kernel
theorem dX6_aheads_96 : decode cX6_aheads 96 = .ok (.aload_n 0, 1) := by decide +kernel
theorem dX6_aheads_97 : decode cX6_aheads 97 = .ok (.getfield 40, 3) := by decide +kernel
theorem dX6_aheads_100 : decode cX6_aheads 100 = .ok (.iload_n 1, 1) := by decide +kernel
theorem dX6_aheads_101 : decode cX6_aheads 101 = .ok (.iaload, 1) := by decide +kernel
theorem dX6_aheads_102 : decode cX6_aheads 102 = .ok (.ishl, 1) := by decide +kernel
theorem dX6_aheads_103 : decode cX6_aheads 103 = .ok (.ior, 1) := by decide +kernel
theorem dX6_aheads_104 : decode cX6_aheads 104 = .ok (.iastore, 1) := by decide +kernel
theorem dX6_aheads_105 : decode cX6_aheads 105 = .ok (.iinc 2 1, 3) := by decide +kernel
theorem dX6_aheads_108 : decode cX6_aheads 108 = .ok (.goto (-50), 3) := by decide +kernel
theorem dX6_aheads_111 : decode cX6_aheads 111 = .ok (.iinc 1 1, 3) := by decide +kernel
theorem dX6_aheads_114 : decode cX6_aheads 114 = .ok (.goto (-91), 3) := by decide +kernel
theorem dX6_aheads_117 : decode cX6_aheads 117 = .ok (.return_, 1) := by decide +kernel
theorem dX6_measures_0 : decode cX6_measures 0 = .ok (.iconst 0, 1) := by decide +kernel
theorem dX6_measures_1 : decode cX6_measures 1 = .ok (.istore_n 2, 1) := by decide +kernel
theorem dX6_measures_2 : decode cX6_measures 2 = .ok (.iload_n 2, 1) := by decide +kernel
theorem dX6_measures_3 : decode cX6_measures 3 = .ok (.bipush 16, 2) := by decide +kernel
theorem dX6_measures_5 : decode cX6_measures 5 = .ok (.if_icmp .ge 17, 3) := by decide +kernel
theorem dX6_measures_8 : decode cX6_measures 8 = .ok (.aload_n 0, 1) := by decide +kernel
theorem dX6_measures_9 : decode cX6_measures 9 = .ok (.getfield 55, 3) := by decide +kernel
theorem dX6_measures_12 : decode cX6_measures 12 = .ok (.iload_n 2, 1) := by decide +kernel
theorem dX6_measures_13 : decode cX6_measures 13 = .ok (.bipush 100, 2) := by decide +kernel
theorem dX6_measures_15 : decode cX6_measures 15 = .ok (.iastore, 1) := by decide +kernel
theorem dX6_measures_16 : decode cX6_measures 16 = .ok (.iinc 2 1, 3) := by decide +kernel
theorem dX6_measures_19 : decode cX6_measures 19 = .ok (.goto (-17), 3) := by decide +kernel
theorem dX6_measures_22 : decode cX6_measures 22 = .ok (.bipush 100, 2) := by decide +kernel
theorem dX6_measures_24 : decode cX6_measures 24 = .ok (.istore_n 2, 1) := by decide +kernel
theorem dX6_measures_25 : decode cX6_measures 25 = .ok (.iconst 1, 1) := by decide +kernel
theorem dX6_measures_26 : decode cX6_measures 26 = .ok (.istore_n 3, 1) := by decide +kernel
theorem dX6_measures_27 : decode cX6_measures 27 = .ok (.iload_n 3, 1) := by decide +kernel
theorem dX6_measures_28 : decode cX6_measures 28 = .ok (.bipush 16, 2) := by decide +kernel
theorem dX6_measures_30 : decode cX6_measures 30 = .ok (.if_icmp .gt 146, 3) := by decide +kernel
theorem dX6_measures_33 : decode cX6_measures 33 = .ok (.iload_n 1, 1) := by decide +kernel
theorem dX6_measures_34 : decode cX6_measures 34 = .ok (.iconst 1, 1) := by decide +kernel
theorem dX6_measures_35 : decode cX6_measures 35 = .ok (.iadd, 1) := by decide +kernel
theorem dX6_measures_36 : decode cX6_measures 36 = .ok (.istore 4, 2) := by decide +kernel
theorem dX6_measures_38 : decode cX6_measures 38 = .ok (.iload 4, 2) := by decide +kernel
theorem dX6_measures_40 : decode cX6_measures 40 = .ok (.bipush 16, 2) := by decide +kernel
theorem dX6_measures_42 : decode cX6_measures 42 = .ok (.if_icmp .ge 128, 3) := by decide +kernel
theorem dX6_measures_45 : decode cX6_measures 45 = .ok (.aload_n 0, 1) := by decide +kernel
theorem dX6_measures_46 : decode cX6_measures 46 = .ok (.getfield 55, 3) := by decide +kernel
theorem dX6_measures_49 : decode cX6_measures 49 = .ok (.iload 4, 2) := by decide +kernel
theorem dX6_measures_51 : decode cX6_measures 51 = .ok (.iaload, 1) := by decide +kernel
theorem dX6_measures_52 : decode cX6_measures 52 = .ok (.bipush 100, 2) := by decide +kernel
theorem dX6_measures_54 : decode cX6_measures 54 = .ok (.if_icmp .ge 6, 3) := by decide +kernel
theorem dX6_measures_57 : decode cX6_measures 57 = .ok (.goto 107, 3) := by decide +kernel
theorem dX6_measures_60 : decode cX6_measures 60 = .ok (.iload_n 3, 1) := by decide +kernel
theorem dX6_measures_61 : decode cX6_measures 61 = .ok (.iconst 1, 1) := by decide +kernel
theorem dX6_measures_62 : decode cX6_measures 62 = .ok (.if_icmp .ne 22, 3) := by decide +kernel
theorem dX6_measures_65 : decode cX6_measures 65 = .ok (.aload_n 0, 1) := by decide +kernel
theorem dX6_measures_66 : decode cX6_measures 66 = .ok (.getfield 52, 3) := by decide +kernel
theorem dX6_measures_69 : decode cX6_measures 69 = .ok (.iload 4, 2) := by decide +kernel
theorem dX6_measures_71 : decode cX6_measures 71 = .ok (.iaload, 1) := by decide +kernel
theorem dX6_measures_72 : decode cX6_measures 72 = .ok (.iload_n 1, 1) := by decide +kernel
theorem dX6_measures_73 : decode cX6_measures 73 = .ok (.ishr, 1) := by decide +kernel
theorem dX6_measures_74 : decode cX6_measures 74 = .ok (.iconst 1, 1) := by decide +kernel
theorem dX6_measures_75 : decode cX6_measures 75 = .ok (.iand, 1) := by decide +kernel
theorem dX6_measures_76 : decode cX6_measures 76 = .ok (.iconst 1, 1) := by decide +kernel
theorem dX6_measures_77 : decode cX6_measures 77 = .ok (.if_icmp .ne 7, 3) := by decide +kernel
theorem dX6_measures_80 : decode cX6_measures 80 = .ok (.iconst 1, 1) := by decide +kernel
theorem dX6_measures_81 : decode cX6_measures 81 = .ok (.goto 4, 3) := by decide +kernel
theorem dX6_measures_84 : decode cX6_measures 84 = .ok (.iconst 0, 1) := by decide +kernel
theorem dX6_measures_85 : decode cX6_measures 85 = .ok (.istore 5, 2) := by decide +kernel
theorem dX6_measures_87 : decode cX6_measures 87 = .ok (.iload_n 1, 1) := by decide +kernel
theorem dX6_measures_88 : decode cX6_measures 88 = .ok (.iconst 1, 1) := by decide +kernel
theorem dX6_measures_89 : decode cX6_measures 89 = .ok (.iadd, 1) := by decide +kernel
theorem dX6_measures_90 : decode cX6_measures 90 = .ok (.istore 6, 2) := by decide +kernel
theorem dX6_measures_92 : decode cX6_measures 92 = .ok (.iload 6, 2) := by decide +kernel
theorem dX6_measures_94 : decode cX6_measures 94 = .ok (.bipush 16, 2) := by decide +kernel
theorem dX6_measures_96 : decode cX6_measures 96 = .ok (.if_icmp .ge 55, 3) := by decide +kernel
theorem dX6_measures_99 : decode cX6_measures 99 = .ok (.iload_n 3, 1) := by decide +kernel
theorem dX6_measures_100 : decode cX6_measures 100 = .ok (.iconst 1, 1) := by decide +kernel
theorem dX6_measures_101 : decode cX6_measures 101 = .ok (.if_icmp .le 50, 3) := by decide +kernel
theorem dX6_measures_104 : decode cX6_measures 104 = .ok (.iload 5, 2) := by decide +kernel
theorem dX6_measures_106 : decode cX6_measures 106 = .ok (.ifCond .ne 32, 3) := by decide +kernel
theorem dX6_measures_109 : decode cX6_measures 109 = .ok (.aload_n 0, 1) := by decide +kernel
theorem dX6_measures_110 : decode cX6_measures 110 = .ok (.getfield 52, 3) := by decide +kernel
theorem dX6_measures_113 : decode cX6_measures 113 = .ok (.iload 4, 2) := by decide +kernel
theorem dX6_measures_115 : decode cX6_measures 115 = .ok (.iaload, 1) := by decide +kernel
theorem dX6_measures_116 : decode cX6_measures 116 = .ok (.iload 6, 2) := by decide +kernel
theorem dX6_measures_118 : decode cX6_measures 118 = .ok (.ishr, 1) := by decide +kernel
theorem dX6_measures_119 : decode cX6_measures 119 = .ok (.iconst 1, 1) := by decide +kernel
theorem dX6_measures_120 : decode cX6_measures 120 = .ok (.iand, 1) := by decide +kernel
theorem dX6_measures_121 : decode cX6_measures 121 = .ok (.iconst 1, 1) := by decide +kernel
theorem dX6_measures_122 : decode cX6_measures 122 = .ok (.if_icmp .ne 20, 3) := by decide +kernel
theorem dX6_measures_125 : decode cX6_measures 125 = .ok (.aload_n 0, 1) := by decide +kernel
theorem dX6_measures_126 : decode cX6_measures 126 = .ok (.getfield 55, 3) := by decide +kernel
theorem dX6_measures_129 : decode cX6_measures 129 = .ok (.iload 6, 2) := by decide +kernel
theorem dX6_measures_131 : decode cX6_measures 131 = .ok (.iaload, 1) := by decide +kernel
theorem dX6_measures_132 : decode cX6_measures 132 = .ok (.iload_n 3, 1) := by decide +kernel
theorem dX6_measures_133 : decode cX6_measures 133 = .ok (.iconst 1, 1) := by decide +kernel
theorem dX6_measures_134 : decode cX6_measures 134 = .ok (.isub, 1) := by decide +kernel
theorem dX6_measures_135 : decode cX6_measures 135 = .ok (.if_icmp .ne 7, 3) := by decide +kernel
theorem dX6_measures_138 : decode cX6_measures 138 = .ok (.iconst 1, 1) := by decide +kernel
theorem dX6_measures_139 : decode cX6_measures 139 = .ok (.goto 4, 3) := by decide +kernel
theorem dX6_measures_142 : decode cX6_measures 142 = .ok (.iconst 0, 1) := by decide +kernel
theorem dX6_measures_143 : decode cX6_measures 143 = .ok (.istore 5, 2) := by decide +kernel
theorem dX6_measures_145 : decode cX6_measures 145 = .ok (.iinc 6 1, 3) := by decide +kernel
theorem dX6_measures_148 : decode cX6_measures 148 = .ok (.goto (-56), 3) := by decide +kernel
theorem dX6_measures_151 : decode cX6_measures 151 = .ok (.iload 5, 2) := by decide +kernel
theorem dX6_measures_153 : decode cX6_measures 153 = .ok (.ifCond .eq 11, 3) := by decide +kernel
theorem dX6_measures_156 : decode cX6_measures 156 = .ok (.aload_n 0, 1) := by decide +kernel
theorem dX6_measures_157 : decode cX6_measures 157 = .ok (.getfield 55, 3) := by decide +kernel
theorem dX6_measures_160 : decode cX6_measures 160 = .ok (.iload 4, 2) := by decide +kernel
theorem dX6_measures_162 : decode cX6_measures 162 = .ok (.iload_n 3, 1) := by decide +kernel
theorem dX6_measures_163 : decode cX6_measures 163 = .ok (.iastore, 1) := by decide +kernel
theorem dX6_measures_164 : decode cX6_measures 164 = .ok (.iinc 4 1, 3) := by decide +kernel
theorem dX6_measures_167 : decode cX6_measures 167 = .ok (.goto (-129), 3) := by decide +kernel
theorem dX6_measures_170 : decode cX6_measures 170 = .ok (.iinc 3 1, 3) := by decide +kernel
theorem dX6_measures_173 : decode cX6_measures 173 = .ok (.goto (-146), 3) := by decide +kernel
theorem dX6_measures_176 : decode cX6_measures 176 = .ok (.iload_n 1, 1) := by decide +kernel
theorem dX6_measures_177 : decode cX6_measures 177 = .ok (.iconst 1, 1) := by decide +kernel
theorem dX6_measures_178 : decode cX6_measures 178 = .ok (.iadd, 1) := by decide +kernel
theorem dX6_measures_179 : decode cX6_measures 179 = .ok (.istore_n 3, 1) := by decide +kernel
theorem dX6_measures_180 : decode cX6_measures 180 = .ok (.iload_n 3, 1) := by decide +kernel
theorem dX6_measures_181 : decode cX6_measures 181 = .ok (.bipush 16, 2) := by decide +kernel
theorem dX6_measures_183 : decode cX6_measures 183 = .ok (.if_icmp .ge 44, 3) := by decide +kernel
theorem dX6_measures_186 : decode cX6_measures 186 = .ok (.aload_n 0, 1) := by decide +kernel
theorem dX6_measures_187 : decode cX6_measures 187 = .ok (.getfield 52, 3) := by decide +kernel
theorem dX6_measures_190 : decode cX6_measures 190 = .ok (.iload_n 1, 1) := by decide +kernel
theorem dX6_measures_191 : decode cX6_measures 191 = .ok (.iaload, 1) := by decide +kernel
theorem dX6_measures_192 : decode cX6_measures 192 = .ok (.iload_n 3, 1) := by decide +kernel
theorem dX6_measures_193 : decode cX6_measures 193 = .ok (.ishr, 1) := by decide +kernel
theorem dX6_measures_194 : decode cX6_measures 194 = .ok (.iconst 1, 1) := by decide +kernel
theorem dX6_measures_195 : decode cX6_measures 195 = .ok (.iand, 1) := by decide +kernel
theorem dX6_measures_196 : decode cX6_measures 196 = .ok (.iconst 1, 1) := by decide +kernel
theorem dX6_measures_197 : decode cX6_measures 197 = .ok (.if_icmp .ne 24, 3) := by decide +kernel
theorem dX6_measures_200 : decode cX6_measures 200 = .ok (.aload_n 0, 1) := by decide +kernel
theorem dX6_measures_201 : decode cX6_measures 201 = .ok (.getfield 55, 3) := by decide +kernel
theorem dX6_measures_204 : decode cX6_measures 204 = .ok (.iload_n 3, 1) := by decide +kernel
theorem dX6_measures_205 : decode cX6_measures 205 = .ok (.iaload, 1) := by decide +kernel
theorem dX6_measures_206 : decode cX6_measures 206 = .ok (.iconst 1, 1) := by decide +kernel
theorem dX6_measures_207 : decode cX6_measures 207 = .ok (.iadd, 1) := by decide +kernel
theorem dX6_measures_208 : decode cX6_measures 208 = .ok (.iload_n 2, 1) := by decide +kernel
theorem dX6_measures_209 : decode cX6_measures 209 = .ok (.if_icmp .ge 12, 3) := by decide +kernel
theorem dX6_measures_212 : decode cX6_measures 212 = .ok (.aload_n 0, 1) := by decide +kernel
theorem dX6_measures_213 : decode cX6_measures 213 = .ok (.getfield 55, 3) := by decide +kernel
theorem dX6_measures_216 : decode cX6_measures 216 = .ok (.iload_n 3, 1) := by decide +kernel
theorem dX6_measures_217 : decode cX6_measures 217 = .ok (.iaload, 1) := by decide +kernel
theorem dX6_measures_218 : decode cX6_measures 218 = .ok (.iconst 1, 1) := by decide +kernel
theorem dX6_measures_219 : decode cX6_measures 219 = .ok (.iadd, 1) := by decide +kernel
theorem dX6_measures_220 : decode cX6_measures 220 = .ok (.istore_n 2, 1) := by decide +kernel
theorem dX6_measures_221 : decode cX6_measures 221 = .ok (.iinc 3 1, 3) := by decide +kernel
theorem dX6_measures_224 : decode cX6_measures 224 = .ok (.goto (-44), 3) := by decide +kernel
theorem dX6_measures_227 : decode cX6_measures 227 = .ok (.iload_n 2, 1) := by decide +kernel
theorem dX6_measures_228 : decode cX6_measures 228 = .ok (.ireturn, 1) := by decide +kernel
theorem dX6_breaks_0 : decode cX6_breaks 0 = .ok (.aload_n 0, 1) := by decide +kernel
theorem dX6_breaks_1 : decode cX6_breaks 1 = .ok (.invokevirtual 181, 3) := by decide +kernel
theorem dX6_breaks_4 : decode cX6_breaks 4 = .ok (.aload_n 0, 1) := by decide +kernel
theorem dX6_breaks_5 : decode cX6_breaks 5 = .ok (.bipush 100, 2) := by decide +kernel
theorem dX6_breaks_7 : decode cX6_breaks 7 = .ok (.putfield 184, 3) := by decide +kernel
theorem dX6_breaks_10 : decode cX6_breaks 10 = .ok (.iconst 0, 1) := by decide +kernel
theorem dX6_breaks_11 : decode cX6_breaks 11 = .ok (.istore_n 1, 1) := by decide +kernel
theorem dX6_breaks_12 : decode cX6_breaks 12 = .ok (.iload_n 1, 1) := by decide +kernel
theorem dX6_breaks_13 : decode cX6_breaks 13 = .ok (.bipush 16, 2) := by decide +kernel
theorem dX6_breaks_15 : decode cX6_breaks 15 = .ok (.if_icmp .ge 113, 3) := by decide +kernel
theorem dX6_breaks_18 : decode cX6_breaks 18 = .ok (.aload_n 0, 1) := by decide +kernel
theorem dX6_breaks_19 : decode cX6_breaks 19 = .ok (.iload_n 1, 1) := by decide +kernel
theorem dX6_breaks_20 : decode cX6_breaks 20 = .ok (.invokevirtual 187, 3) := by decide +kernel
theorem dX6_breaks_23 : decode cX6_breaks 23 = .ok (.istore_n 2, 1) := by decide +kernel
theorem dX6_breaks_24 : decode cX6_breaks 24 = .ok (.iload_n 2, 1) := by decide +kernel
theorem dX6_breaks_25 : decode cX6_breaks 25 = .ok (.aload_n 0, 1) := by decide +kernel
theorem dX6_breaks_26 : decode cX6_breaks 26 = .ok (.getfield 184, 3) := by decide +kernel
theorem dX6_breaks_29 : decode cX6_breaks 29 = .ok (.if_icmp .lt 6, 3) := by decide +kernel
theorem dX6_breaks_32 : decode cX6_breaks 32 = .ok (.goto 90, 3) := by decide +kernel
theorem dX6_breaks_35 : decode cX6_breaks 35 = .ok (.aload_n 0, 1) := by decide +kernel
theorem dX6_breaks_36 : decode cX6_breaks 36 = .ok (.iload_n 2, 1) := by decide +kernel
theorem dX6_breaks_37 : decode cX6_breaks 37 = .ok (.putfield 184, 3) := by decide +kernel
theorem dX6_breaks_40 : decode cX6_breaks 40 = .ok (.iload_n 1, 1) := by decide +kernel
theorem dX6_breaks_41 : decode cX6_breaks 41 = .ok (.istore_n 3, 1) := by decide +kernel
theorem dX6_breaks_42 : decode cX6_breaks 42 = .ok (.iconst 0, 1) := by decide +kernel
theorem dX6_breaks_43 : decode cX6_breaks 43 = .ok (.istore 4, 2) := by decide +kernel
theorem dX6_breaks_45 : decode cX6_breaks 45 = .ok (.iload 4, 2) := by decide +kernel
theorem dX6_breaks_47 : decode cX6_breaks 47 = .ok (.iload_n 2, 1) := by decide +kernel
theorem dX6_breaks_48 : decode cX6_breaks 48 = .ok (.if_icmp .ge 74, 3) := by decide +kernel
theorem dX6_breaks_51 : decode cX6_breaks 51 = .ok (.aload_n 0, 1) := by decide +kernel
theorem dX6_breaks_52 : decode cX6_breaks 52 = .ok (.getfield 58, 3) := by decide +kernel
theorem dX6_breaks_55 : decode cX6_breaks 55 = .ok (.iload 4, 2) := by decide +kernel
theorem dX6_breaks_57 : decode cX6_breaks 57 = .ok (.iload_n 3, 1) := by decide +kernel
theorem dX6_breaks_58 : decode cX6_breaks 58 = .ok (.iastore, 1) := by decide +kernel
theorem dX6_breaks_59 : decode cX6_breaks 59 = .ok (.iconst 0, 1) := by decide +kernel
theorem dX6_breaks_60 : decode cX6_breaks 60 = .ok (.istore 5, 2) := by decide +kernel
theorem dX6_breaks_62 : decode cX6_breaks 62 = .ok (.bipush 15, 2) := by decide +kernel
theorem dX6_breaks_64 : decode cX6_breaks 64 = .ok (.istore 6, 2) := by decide +kernel
theorem dX6_breaks_66 : decode cX6_breaks 66 = .ok (.iload 6, 2) := by decide +kernel
theorem dX6_breaks_68 : decode cX6_breaks 68 = .ok (.iload_n 1, 1) := by decide +kernel
theorem dX6_breaks_69 : decode cX6_breaks 69 = .ok (.if_icmp .le 44, 3) := by decide +kernel
theorem dX6_breaks_72 : decode cX6_breaks 72 = .ok (.aload_n 0, 1) := by decide +kernel
theorem dX6_breaks_73 : decode cX6_breaks 73 = .ok (.getfield 52, 3) := by decide +kernel
theorem dX6_breaks_76 : decode cX6_breaks 76 = .ok (.iload_n 3, 1) := by decide +kernel
theorem dX6_breaks_77 : decode cX6_breaks 77 = .ok (.iaload, 1) := by decide +kernel
theorem dX6_breaks_78 : decode cX6_breaks 78 = .ok (.iload 6, 2) := by decide +kernel
theorem dX6_breaks_80 : decode cX6_breaks 80 = .ok (.ishr, 1) := by decide +kernel
theorem dX6_breaks_81 : decode cX6_breaks 81 = .ok (.iconst 1, 1) := by decide +kernel
theorem dX6_breaks_82 : decode cX6_breaks 82 = .ok (.iand, 1) := by decide +kernel
theorem dX6_breaks_83 : decode cX6_breaks 83 = .ok (.iconst 1, 1) := by decide +kernel
theorem dX6_breaks_84 : decode cX6_breaks 84 = .ok (.if_icmp .ne 23, 3) := by decide +kernel
theorem dX6_breaks_87 : decode cX6_breaks 87 = .ok (.aload_n 0, 1) := by decide +kernel
theorem dX6_breaks_88 : decode cX6_breaks 88 = .ok (.getfield 55, 3) := by decide +kernel
theorem dX6_breaks_91 : decode cX6_breaks 91 = .ok (.iload 6, 2) := by decide +kernel
theorem dX6_breaks_93 : decode cX6_breaks 93 = .ok (.iaload, 1) := by decide +kernel
theorem dX6_breaks_94 : decode cX6_breaks 94 = .ok (.iload_n 2, 1) := by decide +kernel
theorem dX6_breaks_95 : decode cX6_breaks 95 = .ok (.iconst 1, 1) := by decide +kernel
theorem dX6_breaks_96 : decode cX6_breaks 96 = .ok (.isub, 1) := by decide +kernel
theorem dX6_breaks_97 : decode cX6_breaks 97 = .ok (.iload 4, 2) := by decide +kernel
theorem dX6_breaks_99 : decode cX6_breaks 99 = .ok (.isub, 1) := by decide +kernel
theorem dX6_breaks_100 : decode cX6_breaks 100 = .ok (.if_icmp .ne 7, 3) := by decide +kernel
theorem dX6_breaks_103 : decode cX6_breaks 103 = .ok (.iload 6, 2) := by decide +kernel
theorem dX6_breaks_105 : decode cX6_breaks 105 = .ok (.istore 5, 2) := by decide +kernel
theorem dX6_breaks_107 : decode cX6_breaks 107 = .ok (.iinc 6 (-1), 3) := by decide +kernel
theorem dX6_breaks_110 : decode cX6_breaks 110 = .ok (.goto (-44), 3) := by decide +kernel
theorem dX6_breaks_113 : decode cX6_breaks 113 = .ok (.iload 5, 2) := by decide +kernel
theorem dX6_breaks_115 : decode cX6_breaks 115 = .ok (.istore_n 3, 1) := by decide +kernel
theorem dX6_breaks_116 : decode cX6_breaks 116 = .ok (.iinc 4 1, 3) := by decide +kernel
theorem dX6_breaks_119 : decode cX6_breaks 119 = .ok (.goto (-74), 3) := by decide +kernel
theorem dX6_breaks_122 : decode cX6_breaks 122 = .ok (.iinc 1 1, 3) := by decide +kernel
theorem dX6_breaks_125 : decode cX6_breaks 125 = .ok (.goto (-113), 3) := by decide +kernel
theorem dX6_breaks_128 : decode cX6_breaks 128 = .ok (.return_, 1) := by decide +kernel
theorem dX6_broken_0 : decode cX6_broken 0 = .ok (.aload_n 0, 1) := by decide +kernel
theorem dX6_broken_1 : decode cX6_broken 1 = .ok (.invokevirtual 190, 3) := by decide +kernel
theorem dX6_broken_4 : decode cX6_broken 4 = .ok (.aload_n 0, 1) := by decide +kernel
theorem dX6_broken_5 : decode cX6_broken 5 = .ok (.getfield 184, 3) := by decide +kernel
theorem dX6_broken_8 : decode cX6_broken 8 = .ok (.bipush 100, 2) := by decide +kernel
theorem dX6_broken_10 : decode cX6_broken 10 = .ok (.if_icmp .ge 26, 3) := by decide +kernel
theorem dX6_broken_13 : decode cX6_broken 13 = .ok (.iload_n 1, 1) := by decide +kernel
theorem dX6_broken_14 : decode cX6_broken 14 = .ok (.iconst 0, 1) := by decide +kernel
theorem dX6_broken_15 : decode cX6_broken 15 = .ok (.aload_n 0, 1) := by decide +kernel
theorem dX6_broken_16 : decode cX6_broken 16 = .ok (.getfield 184, 3) := by decide +kernel
theorem dX6_broken_19 : decode cX6_broken 19 = .ok (.iconst 1, 1) := by decide +kernel
theorem dX6_broken_20 : decode cX6_broken 20 = .ok (.isub, 1) := by decide +kernel
theorem dX6_broken_21 : decode cX6_broken 21 = .ok (.invokestatic 84, 3) := by decide +kernel
theorem dX6_broken_24 : decode cX6_broken 24 = .ok (.ifCond .eq 12, 3) := by decide +kernel
theorem dX6_broken_27 : decode cX6_broken 27 = .ok (.aload_n 0, 1) := by decide +kernel
theorem dX6_broken_28 : decode cX6_broken 28 = .ok (.getfield 58, 3) := by decide +kernel
theorem dX6_broken_31 : decode cX6_broken 31 = .ok (.iload_n 1, 1) := by decide +kernel
theorem dX6_broken_32 : decode cX6_broken 32 = .ok (.iaload, 1) := by decide +kernel
theorem dX6_broken_33 : decode cX6_broken 33 = .ok (.goto 4, 3) := by decide +kernel
theorem dX6_broken_36 : decode cX6_broken 36 = .ok (.iconst (-1), 1) := by decide +kernel
theorem dX6_broken_37 : decode cX6_broken 37 = .ok (.ireturn, 1) := by decide +kernel
theorem dX6_meter_0 : decode cX6_meter 0 = .ok (.iload_n 1, 1) := by decide +kernel
theorem dX6_meter_1 : decode cX6_meter 1 = .ok (.iconst 2, 1) := by decide +kernel
theorem dX6_meter_2 : decode cX6_meter 2 = .ok (.sipush 10000, 3) := by decide +kernel
theorem dX6_meter_5 : decode cX6_meter 5 = .ok (.invokestatic 84, 3) := by decide +kernel
theorem dX6_meter_8 : decode cX6_meter 8 = .ok (.ifCond .eq 13, 3) := by decide +kernel
theorem dX6_meter_11 : decode cX6_meter 11 = .ok (.iload_n 2, 1) := by decide +kernel
theorem dX6_meter_12 : decode cX6_meter 12 = .ok (.iconst 0, 1) := by decide +kernel
theorem dX6_meter_13 : decode cX6_meter 13 = .ok (.bipush 100, 2) := by decide +kernel
theorem dX6_meter_15 : decode cX6_meter 15 = .ok (.invokestatic 84, 3) := by decide +kernel
theorem dX6_meter_18 : decode cX6_meter 18 = .ok (.ifCond .ne 5, 3) := by decide +kernel
theorem dX6_meter_21 : decode cX6_meter 21 = .ok (.iconst 0, 1) := by decide +kernel
theorem dX6_meter_22 : decode cX6_meter 22 = .ok (.ireturn, 1) := by decide +kernel
theorem dX6_meter_23 : decode cX6_meter 23 = .ok (.aload_n 0, 1) := by decide +kernel
theorem dX6_meter_24 : decode cX6_meter 24 = .ok (.iload_n 1, 1) := by decide +kernel
theorem dX6_meter_25 : decode cX6_meter 25 = .ok (.putfield 13, 3) := by decide +kernel
theorem dX6_meter_28 : decode cX6_meter 28 = .ok (.aload_n 0, 1) := by decide +kernel
theorem dX6_meter_29 : decode cX6_meter 29 = .ok (.iload_n 2, 1) := by decide +kernel
theorem dX6_meter_30 : decode cX6_meter 30 = .ok (.putfield 17, 3) := by decide +kernel
theorem dX6_meter_33 : decode cX6_meter 33 = .ok (.iconst 1, 1) := by decide +kernel
theorem dX6_meter_34 : decode cX6_meter 34 = .ok (.ireturn, 1) := by decide +kernel
theorem dX6_work_0 : decode cX6_work 0 = .ok (.aload_n 0, 1) := by decide +kernel
theorem dX6_work_1 : decode cX6_work 1 = .ok (.iload_n 2, 1) := by decide +kernel
theorem dX6_work_2 : decode cX6_work 2 = .ok (.iload_n 1, 1) := by decide +kernel
theorem dX6_work_3 : decode cX6_work 3 = .ok (.invokevirtual 149, 3) := by decide +kernel
theorem dX6_work_6 : decode cX6_work 6 = .ok (.ifCond .eq 17, 3) := by decide +kernel
theorem dX6_work_9 : decode cX6_work 9 = .ok (.aload_n 0, 1) := by decide +kernel
theorem dX6_work_10 : decode cX6_work 10 = .ok (.iload_n 3, 1) := by decide +kernel
theorem dX6_work_11 : decode cX6_work 11 = .ok (.iload_n 1, 1) := by decide +kernel
theorem dX6_work_12 : decode cX6_work 12 = .ok (.invokevirtual 149, 3) := by decide +kernel
theorem dX6_work_15 : decode cX6_work 15 = .ok (.ifCond .eq 8, 3) := by decide +kernel
theorem dX6_work_18 : decode cX6_work 18 = .ok (.iload_n 2, 1) := by decide +kernel
theorem dX6_work_19 : decode cX6_work 19 = .ok (.iload_n 3, 1) := by decide +kernel
theorem dX6_work_20 : decode cX6_work 20 = .ok (.if_icmp .ne 5, 3) := by decide +kernel
theorem dX6_work_23 : decode cX6_work 23 = .ok (.iconst (-1), 1) := by decide +kernel
theorem dX6_work_24 : decode cX6_work 24 = .ok (.ireturn, 1) := by decide +kernel
theorem dX6_work_25 : decode cX6_work 25 = .ok (.aload_n 0, 1) := by decide +kernel
theorem dX6_work_26 : decode cX6_work 26 = .ok (.getfield 20, 3) := by decide +kernel
theorem dX6_work_29 : decode cX6_work 29 = .ok (.iload_n 2, 1) := by decide +kernel
theorem dX6_work_30 : decode cX6_work 30 = .ok (.iaload, 1) := by decide +kernel
theorem dX6_work_31 : decode cX6_work 31 = .ok (.aload_n 0, 1) := by decide +kernel
theorem dX6_work_32 : decode cX6_work 32 = .ok (.getfield 20, 3) := by decide +kernel
theorem dX6_work_35 : decode cX6_work 35 = .ok (.iload_n 3, 1) := by decide +kernel
theorem dX6_work_36 : decode cX6_work 36 = .ok (.iaload, 1) := by decide +kernel
theorem dX6_work_37 : decode cX6_work 37 = .ok (.if_icmp .ge 7, 3) := by decide +kernel
theorem dX6_work_40 : decode cX6_work 40 = .ok (.iload_n 2, 1) := by decide +kernel
theorem dX6_work_41 : decode cX6_work 41 = .ok (.goto 4, 3) := by decide +kernel
theorem dX6_work_44 : decode cX6_work 44 = .ok (.iload_n 3, 1) := by decide +kernel
theorem dX6_work_45 : decode cX6_work 45 = .ok (.istore 5, 2) := by decide +kernel
theorem dX6_work_47 : decode cX6_work 47 = .ok (.iload_n 2, 1) := by decide +kernel
theorem dX6_work_48 : decode cX6_work 48 = .ok (.iload_n 3, 1) := by decide +kernel
theorem dX6_work_49 : decode cX6_work 49 = .ok (.iadd, 1) := by decide +kernel
theorem dX6_work_50 : decode cX6_work 50 = .ok (.iload 5, 2) := by decide +kernel
theorem dX6_work_52 : decode cX6_work 52 = .ok (.isub, 1) := by decide +kernel
theorem dX6_work_53 : decode cX6_work 53 = .ok (.istore 6, 2) := by decide +kernel
theorem dX6_work_55 : decode cX6_work 55 = .ok (.aload_n 0, 1) := by decide +kernel
theorem dX6_work_56 : decode cX6_work 56 = .ok (.getfield 34, 3) := by decide +kernel
theorem dX6_work_59 : decode cX6_work 59 = .ok (.bipush 24, 2) := by decide +kernel
theorem dX6_work_61 : decode cX6_work 61 = .ok (.iload 6, 2) := by decide +kernel
theorem dX6_work_63 : decode cX6_work 63 = .ok (.imul, 1) := by decide +kernel
theorem dX6_work_64 : decode cX6_work 64 = .ok (.iload_n 1, 1) := by decide +kernel
theorem dX6_work_65 : decode cX6_work 65 = .ok (.iadd, 1) := by decide +kernel
theorem dX6_work_66 : decode cX6_work 66 = .ok (.iaload, 1) := by decide +kernel
theorem dX6_work_67 : decode cX6_work 67 = .ok (.aload_n 0, 1) := by decide +kernel
theorem dX6_work_68 : decode cX6_work 68 = .ok (.getfield 13, 3) := by decide +kernel
theorem dX6_work_71 : decode cX6_work 71 = .ok (.irem, 1) := by decide +kernel
theorem dX6_work_72 : decode cX6_work 72 = .ok (.aload_n 0, 1) := by decide +kernel
theorem dX6_work_73 : decode cX6_work 73 = .ok (.getfield 34, 3) := by decide +kernel
theorem dX6_work_76 : decode cX6_work 76 = .ok (.bipush 24, 2) := by decide +kernel
theorem dX6_work_78 : decode cX6_work 78 = .ok (.iload 5, 2) := by decide +kernel
theorem dX6_work_80 : decode cX6_work 80 = .ok (.imul, 1) := by decide +kernel
theorem dX6_work_81 : decode cX6_work 81 = .ok (.iload_n 1, 1) := by decide +kernel
theorem dX6_work_82 : decode cX6_work 82 = .ok (.iadd, 1) := by decide +kernel
theorem dX6_work_83 : decode cX6_work 83 = .ok (.iaload, 1) := by decide +kernel
theorem dX6_work_84 : decode cX6_work 84 = .ok (.aload_n 0, 1) := by decide +kernel
theorem dX6_work_85 : decode cX6_work 85 = .ok (.getfield 13, 3) := by decide +kernel
theorem dX6_work_88 : decode cX6_work 88 = .ok (.irem, 1) := by decide +kernel
theorem dX6_work_89 : decode cX6_work 89 = .ok (.isub, 1) := by decide +kernel
theorem dX6_work_90 : decode cX6_work 90 = .ok (.aload_n 0, 1) := by decide +kernel
theorem dX6_work_91 : decode cX6_work 91 = .ok (.getfield 13, 3) := by decide +kernel
theorem dX6_work_94 : decode cX6_work 94 = .ok (.iadd, 1) := by decide +kernel
theorem dX6_work_95 : decode cX6_work 95 = .ok (.aload_n 0, 1) := by decide +kernel
theorem dX6_work_96 : decode cX6_work 96 = .ok (.getfield 13, 3) := by decide +kernel
theorem dX6_work_99 : decode cX6_work 99 = .ok (.irem, 1) := by decide +kernel
theorem dX6_work_100 : decode cX6_work 100 = .ok (.istore 7, 2) := by decide +kernel
theorem dX6_work_102 : decode cX6_work 102 = .ok (.aload_n 0, 1) := by decide +kernel
theorem dX6_work_103 : decode cX6_work 103 = .ok (.getfield 17, 3) := by decide +kernel
theorem dX6_work_106 : decode cX6_work 106 = .ok (.aload_n 0, 1) := by decide +kernel
theorem dX6_work_107 : decode cX6_work 107 = .ok (.getfield 20, 3) := by decide +kernel
theorem dX6_work_110 : decode cX6_work 110 = .ok (.iload 6, 2) := by decide +kernel
theorem dX6_work_112 : decode cX6_work 112 = .ok (.iaload, 1) := by decide +kernel
theorem dX6_work_113 : decode cX6_work 113 = .ok (.aload_n 0, 1) := by decide +kernel
theorem dX6_work_114 : decode cX6_work 114 = .ok (.getfield 20, 3) := by decide +kernel
theorem dX6_work_117 : decode cX6_work 117 = .ok (.iload 5, 2) := by decide +kernel
theorem dX6_work_119 : decode cX6_work 119 = .ok (.iaload, 1) := by decide +kernel
theorem dX6_work_120 : decode cX6_work 120 = .ok (.isub, 1) := by decide +kernel
theorem dX6_work_121 : decode cX6_work 121 = .ok (.imul, 1) := by decide +kernel
theorem dX6_work_122 : decode cX6_work 122 = .ok (.istore 8, 2) := by decide +kernel
theorem dX6_work_124 : decode cX6_work 124 = .ok (.iload 7, 2) := by decide +kernel
theorem dX6_work_126 : decode cX6_work 126 = .ok (.iload 8, 2) := by decide +kernel
theorem dX6_work_128 : decode cX6_work 128 = .ok (.if_icmp .le 7, 3) := by decide +kernel
theorem dX6_work_131 : decode cX6_work 131 = .ok (.iconst 0, 1) := by decide +kernel
theorem dX6_work_132 : decode cX6_work 132 = .ok (.goto 15, 3) := by decide +kernel
theorem dX6_work_135 : decode cX6_work 135 = .ok (.iload 8, 2) := by decide +kernel
theorem dX6_work_137 : decode cX6_work 137 = .ok (.iload 7, 2) := by decide +kernel
theorem dX6_work_139 : decode cX6_work 139 = .ok (.isub, 1) := by decide +kernel
theorem dX6_work_140 : decode cX6_work 140 = .ok (.aload_n 0, 1) := by decide +kernel
theorem dX6_work_141 : decode cX6_work 141 = .ok (.getfield 13, 3) := by decide +kernel
theorem dX6_work_144 : decode cX6_work 144 = .ok (.idiv, 1) := by decide +kernel
theorem dX6_work_145 : decode cX6_work 145 = .ok (.iconst 1, 1) := by decide +kernel
theorem dX6_work_146 : decode cX6_work 146 = .ok (.iadd, 1) := by decide +kernel
theorem dX6_work_147 : decode cX6_work 147 = .ok (.istore 9, 2) := by decide +kernel
theorem dX6_work_149 : decode cX6_work 149 = .ok (.iload 4, 2) := by decide +kernel
theorem dX6_work_151 : decode cX6_work 151 = .ok (.tableswitch 62 0 2 #[25, 37, 59], 25) := by decide +kernel
theorem dX6_work_176 : decode cX6_work 176 = .ok (.iload 9, 2) := by decide +kernel
theorem dX6_work_178 : decode cX6_work 178 = .ok (.ifCond .ne 7, 3) := by decide +kernel
theorem dX6_work_181 : decode cX6_work 181 = .ok (.iconst (-1), 1) := by decide +kernel
theorem dX6_work_182 : decode cX6_work 182 = .ok (.goto 5, 3) := by decide +kernel
theorem dX6_work_185 : decode cX6_work 185 = .ok (.iload 7, 2) := by decide +kernel
theorem dX6_work_187 : decode cX6_work 187 = .ok (.ireturn, 1) := by decide +kernel
theorem dX6_work_188 : decode cX6_work 188 = .ok (.iload 9, 2) := by decide +kernel
theorem dX6_work_190 : decode cX6_work 190 = .ok (.ifCond .ne 7, 3) := by decide +kernel
theorem dX6_work_193 : decode cX6_work 193 = .ok (.iconst (-1), 1) := by decide +kernel
theorem dX6_work_194 : decode cX6_work 194 = .ok (.goto 15, 3) := by decide +kernel
theorem dX6_work_197 : decode cX6_work 197 = .ok (.iload 7, 2) := by decide +kernel
theorem dX6_work_199 : decode cX6_work 199 = .ok (.iload 9, 2) := by decide +kernel
theorem dX6_work_201 : decode cX6_work 201 = .ok (.iconst 1, 1) := by decide +kernel
theorem dX6_work_202 : decode cX6_work 202 = .ok (.isub, 1) := by decide +kernel
theorem dX6_work_203 : decode cX6_work 203 = .ok (.aload_n 0, 1) := by decide +kernel
theorem dX6_work_204 : decode cX6_work 204 = .ok (.getfield 13, 3) := by decide +kernel
theorem dX6_work_207 : decode cX6_work 207 = .ok (.imul, 1) := by decide +kernel
theorem dX6_work_208 : decode cX6_work 208 = .ok (.iadd, 1) := by decide +kernel
theorem dX6_work_209 : decode cX6_work 209 = .ok (.ireturn, 1) := by decide +kernel
theorem dX6_work_210 : decode cX6_work 210 = .ok (.iload 9, 2) := by decide +kernel
theorem dX6_work_212 : decode cX6_work 212 = .ok (.ireturn, 1) := by decide +kernel
theorem dX6_work_213 : decode cX6_work 213 = .ok (.iconst (-1), 1) := by decide +kernel
theorem dX6_work_214 : decode cX6_work 214 = .ok (.ireturn, 1) := by decide +kernel
theorem dX6_least_0 : decode cX6_least 0 = .ok (.iload_n 0, 1) := by decide +kernel
theorem dX6_least_1 : decode cX6_least 1 = .ok (.iload_n 1, 1) := by decide +kernel
theorem dX6_least_2 : decode cX6_least 2 = .ok (.if_icmp .ge 7, 3) := by decide +kernel
theorem dX6_least_5 : decode cX6_least 5 = .ok (.iload_n 0, 1) := by decide +kernel
theorem dX6_least_6 : decode cX6_least 6 = .ok (.goto 4, 3) := by decide +kernel
theorem dX6_least_9 : decode cX6_least 9 = .ok (.iload_n 1, 1) := by decide +kernel
theorem dX6_least_10 : decode cX6_least 10 = .ok (.ireturn, 1) := by decide +kernel
theorem dX6_distanceOf_0 : decode cX6_distanceOf 0 = .ok (.iconst 0, 1) := by decide +kernel
theorem dX6_distanceOf_1 : decode cX6_distanceOf 1 = .ok (.istore_n 3, 1) := by decide +kernel
theorem dX6_distanceOf_2 : decode cX6_distanceOf 2 = .ok (.iload_n 3, 1) := by decide +kernel
theorem dX6_distanceOf_3 : decode cX6_distanceOf 3 = .ok (.aload_n 0, 1) := by decide +kernel
theorem dX6_distanceOf_4 : decode cX6_distanceOf 4 = .ok (.getfield 43, 3) := by decide +kernel
theorem dX6_distanceOf_7 : decode cX6_distanceOf 7 = .ok (.iload_n 1, 1) := by decide +kernel
theorem dX6_distanceOf_8 : decode cX6_distanceOf 8 = .ok (.iaload, 1) := by decide +kernel
theorem dX6_distanceOf_9 : decode cX6_distanceOf 9 = .ok (.if_icmp .gt 158, 3) := by decide +kernel
theorem dX6_distanceOf_12 : decode cX6_distanceOf 12 = .ok (.iconst 0, 1) := by decide +kernel
theorem dX6_distanceOf_13 : decode cX6_distanceOf 13 = .ok (.istore 4, 2) := by decide +kernel
theorem dX6_distanceOf_15 : decode cX6_distanceOf 15 = .ok (.iload 4, 2) := by decide +kernel
theorem dX6_distanceOf_17 : decode cX6_distanceOf 17 = .ok (.aload_n 0, 1) := by decide +kernel
theorem dX6_distanceOf_18 : decode cX6_distanceOf 18 = .ok (.getfield 43, 3) := by decide +kernel
theorem dX6_distanceOf_21 : decode cX6_distanceOf 21 = .ok (.iload_n 2, 1) := by decide +kernel
theorem dX6_distanceOf_22 : decode cX6_distanceOf 22 = .ok (.iaload, 1) := by decide +kernel
theorem dX6_distanceOf_23 : decode cX6_distanceOf 23 = .ok (.if_icmp .gt 138, 3) := by decide +kernel
theorem dX6_distanceOf_26 : decode cX6_distanceOf 26 = .ok (.iload_n 3, 1) := by decide +kernel
theorem dX6_distanceOf_27 : decode cX6_distanceOf 27 = .ok (.ifCond .ne 8, 3) := by decide +kernel
theorem dX6_distanceOf_30 : decode cX6_distanceOf 30 = .ok (.iload 4, 2) := by decide +kernel
theorem dX6_distanceOf_32 : decode cX6_distanceOf 32 = .ok (.goto 4, 3) := by decide +kernel
theorem dX6_distanceOf_35 : decode cX6_distanceOf 35 = .ok (.iload_n 3, 1) := by decide +kernel
theorem dX6_distanceOf_36 : decode cX6_distanceOf 36 = .ok (.istore 5, 2) := by decide +kernel
theorem dX6_distanceOf_38 : decode cX6_distanceOf 38 = .ok (.iload_n 3, 1) := by decide +kernel
theorem dX6_distanceOf_39 : decode cX6_distanceOf 39 = .ok (.ifCond .le 102, 3) := by decide +kernel
theorem dX6_distanceOf_42 : decode cX6_distanceOf 42 = .ok (.iload 4, 2) := by decide +kernel
theorem dX6_distanceOf_44 : decode cX6_distanceOf 44 = .ok (.ifCond .le 97, 3) := by decide +kernel
theorem dX6_distanceOf_47 : decode cX6_distanceOf 47 = .ok (.aload_n 0, 1) := by decide +kernel
theorem dX6_distanceOf_48 : decode cX6_distanceOf 48 = .ok (.getfield 46, 3) := by decide +kernel
theorem dX6_distanceOf_51 : decode cX6_distanceOf 51 = .ok (.bipush 12, 2) := by decide +kernel
theorem dX6_distanceOf_53 : decode cX6_distanceOf 53 = .ok (.iload_n 1, 1) := by decide +kernel
theorem dX6_distanceOf_54 : decode cX6_distanceOf 54 = .ok (.imul, 1) := by decide +kernel
theorem dX6_distanceOf_55 : decode cX6_distanceOf 55 = .ok (.iload_n 3, 1) := by decide +kernel
theorem dX6_distanceOf_56 : decode cX6_distanceOf 56 = .ok (.iadd, 1) := by decide +kernel
theorem dX6_distanceOf_57 : decode cX6_distanceOf 57 = .ok (.iconst 1, 1) := by decide +kernel
theorem dX6_distanceOf_58 : decode cX6_distanceOf 58 = .ok (.isub, 1) := by decide +kernel
theorem dX6_distanceOf_59 : decode cX6_distanceOf 59 = .ok (.baload, 1) := by decide +kernel
theorem dX6_distanceOf_60 : decode cX6_distanceOf 60 = .ok (.aload_n 0, 1) := by decide +kernel
theorem dX6_distanceOf_61 : decode cX6_distanceOf 61 = .ok (.getfield 46, 3) := by decide +kernel
theorem dX6_distanceOf_64 : decode cX6_distanceOf 64 = .ok (.bipush 12, 2) := by decide +kernel
theorem dX6_distanceOf_66 : decode cX6_distanceOf 66 = .ok (.iload_n 2, 1) := by decide +kernel
theorem dX6_distanceOf_67 : decode cX6_distanceOf 67 = .ok (.imul, 1) := by decide +kernel
theorem dX6_distanceOf_68 : decode cX6_distanceOf 68 = .ok (.iload 4, 2) := by decide +kernel
theorem dX6_distanceOf_70 : decode cX6_distanceOf 70 = .ok (.iadd, 1) := by decide +kernel
theorem dX6_distanceOf_71 : decode cX6_distanceOf 71 = .ok (.iconst 1, 1) := by decide +kernel
theorem dX6_distanceOf_72 : decode cX6_distanceOf 72 = .ok (.isub, 1) := by decide +kernel
theorem dX6_distanceOf_73 : decode cX6_distanceOf 73 = .ok (.baload, 1) := by decide +kernel
theorem dX6_distanceOf_74 : decode cX6_distanceOf 74 = .ok (.if_icmp .ne 7, 3) := by decide +kernel
theorem dX6_distanceOf_77 : decode cX6_distanceOf 77 = .ok (.iconst 0, 1) := by decide +kernel
theorem dX6_distanceOf_78 : decode cX6_distanceOf 78 = .ok (.goto 4, 3) := by decide +kernel
theorem dX6_distanceOf_81 : decode cX6_distanceOf 81 = .ok (.iconst 1, 1) := by decide +kernel
theorem dX6_distanceOf_82 : decode cX6_distanceOf 82 = .ok (.istore 6, 2) := by decide +kernel
theorem dX6_distanceOf_84 : decode cX6_distanceOf 84 = .ok (.aload_n 0, 1) := by decide +kernel
theorem dX6_distanceOf_85 : decode cX6_distanceOf 85 = .ok (.getfield 61, 3) := by decide +kernel
theorem dX6_distanceOf_88 : decode cX6_distanceOf 88 = .ok (.bipush 13, 2) := by decide +kernel
theorem dX6_distanceOf_90 : decode cX6_distanceOf 90 = .ok (.iload_n 3, 1) := by decide +kernel
theorem dX6_distanceOf_91 : decode cX6_distanceOf 91 = .ok (.iconst 1, 1) := by decide +kernel
theorem dX6_distanceOf_92 : decode cX6_distanceOf 92 = .ok (.isub, 1) := by decide +kernel
theorem dX6_distanceOf_93 : decode cX6_distanceOf 93 = .ok (.imul, 1) := by decide +kernel
theorem dX6_distanceOf_94 : decode cX6_distanceOf 94 = .ok (.iload 4, 2) := by decide +kernel
theorem dX6_distanceOf_96 : decode cX6_distanceOf 96 = .ok (.iadd, 1) := by decide +kernel
theorem dX6_distanceOf_97 : decode cX6_distanceOf 97 = .ok (.iconst 1, 1) := by decide +kernel
theorem dX6_distanceOf_98 : decode cX6_distanceOf 98 = .ok (.isub, 1) := by decide +kernel
theorem dX6_distanceOf_99 : decode cX6_distanceOf 99 = .ok (.iaload, 1) := by decide +kernel
theorem dX6_distanceOf_100 : decode cX6_distanceOf 100 = .ok (.iload 6, 2) := by decide +kernel
theorem dX6_distanceOf_102 : decode cX6_distanceOf 102 = .ok (.iadd, 1) := by decide +kernel
theorem dX6_distanceOf_103 : decode cX6_distanceOf 103 = .ok (.iconst 1, 1) := by decide +kernel
theorem dX6_distanceOf_104 : decode cX6_distanceOf 104 = .ok (.aload_n 0, 1) := by decide +kernel
theorem dX6_distanceOf_105 : decode cX6_distanceOf 105 = .ok (.getfield 61, 3) := by decide +kernel
theorem dX6_distanceOf_108 : decode cX6_distanceOf 108 = .ok (.bipush 13, 2) := by decide +kernel
theorem dX6_distanceOf_110 : decode cX6_distanceOf 110 = .ok (.iload_n 3, 1) := by decide +kernel
theorem dX6_distanceOf_111 : decode cX6_distanceOf 111 = .ok (.iconst 1, 1) := by decide +kernel
theorem dX6_distanceOf_112 : decode cX6_distanceOf 112 = .ok (.isub, 1) := by decide +kernel
theorem dX6_distanceOf_113 : decode cX6_distanceOf 113 = .ok (.imul, 1) := by decide +kernel
theorem dX6_distanceOf_114 : decode cX6_distanceOf 114 = .ok (.iload 4, 2) := by decide +kernel
theorem dX6_distanceOf_116 : decode cX6_distanceOf 116 = .ok (.iadd, 1) := by decide +kernel
theorem dX6_distanceOf_117 : decode cX6_distanceOf 117 = .ok (.iaload, 1) := by decide +kernel
theorem dX6_distanceOf_118 : decode cX6_distanceOf 118 = .ok (.aload_n 0, 1) := by decide +kernel
theorem dX6_distanceOf_119 : decode cX6_distanceOf 119 = .ok (.getfield 61, 3) := by decide +kernel
theorem dX6_distanceOf_122 : decode cX6_distanceOf 122 = .ok (.bipush 13, 2) := by decide +kernel
theorem dX6_distanceOf_124 : decode cX6_distanceOf 124 = .ok (.iload_n 3, 1) := by decide +kernel
theorem dX6_distanceOf_125 : decode cX6_distanceOf 125 = .ok (.imul, 1) := by decide +kernel
theorem dX6_distanceOf_126 : decode cX6_distanceOf 126 = .ok (.iload 4, 2) := by decide +kernel
theorem dX6_distanceOf_128 : decode cX6_distanceOf 128 = .ok (.iadd, 1) := by decide +kernel
theorem dX6_distanceOf_129 : decode cX6_distanceOf 129 = .ok (.iconst 1, 1) := by decide +kernel
theorem dX6_distanceOf_130 : decode cX6_distanceOf 130 = .ok (.isub, 1) := by decide +kernel
theorem dX6_distanceOf_131 : decode cX6_distanceOf 131 = .ok (.iaload, 1) := by decide +kernel
theorem dX6_distanceOf_132 : decode cX6_distanceOf 132 = .ok (.invokestatic 193, 3) := by decide +kernel
theorem dX6_distanceOf_135 : decode cX6_distanceOf 135 = .ok (.iadd, 1) := by decide +kernel
theorem dX6_distanceOf_136 : decode cX6_distanceOf 136 = .ok (.invokestatic 193, 3) := by decide +kernel
theorem dX6_distanceOf_139 : decode cX6_distanceOf 139 = .ok (.istore 5, 2) := by decide +kernel
theorem dX6_distanceOf_141 : decode cX6_distanceOf 141 = .ok (.aload_n 0, 1) := by decide +kernel
theorem dX6_distanceOf_142 : decode cX6_distanceOf 142 = .ok (.getfield 61, 3) := by decide +kernel
theorem dX6_distanceOf_145 : decode cX6_distanceOf 145 = .ok (.bipush 13, 2) := by decide +kernel
theorem dX6_distanceOf_147 : decode cX6_distanceOf 147 = .ok (.iload_n 3, 1) := by decide +kernel
theorem dX6_distanceOf_148 : decode cX6_distanceOf 148 = .ok (.imul, 1) := by decide +kernel
theorem dX6_distanceOf_149 : decode cX6_distanceOf 149 = .ok (.iload 4, 2) := by decide +kernel
theorem dX6_distanceOf_151 : decode cX6_distanceOf 151 = .ok (.iadd, 1) := by decide +kernel
theorem dX6_distanceOf_152 : decode cX6_distanceOf 152 = .ok (.iload 5, 2) := by decide +kernel
theorem dX6_distanceOf_154 : decode cX6_distanceOf 154 = .ok (.iastore, 1) := by decide +kernel
theorem dX6_distanceOf_155 : decode cX6_distanceOf 155 = .ok (.iinc 4 1, 3) := by decide +kernel
theorem dX6_distanceOf_158 : decode cX6_distanceOf 158 = .ok (.goto (-143), 3) := by decide +kernel
theorem dX6_distanceOf_161 : decode cX6_distanceOf 161 = .ok (.iinc 3 1, 3) := by decide +kernel
theorem dX6_distanceOf_164 : decode cX6_distanceOf 164 = .ok (.goto (-162), 3) := by decide +kernel
theorem dX6_distanceOf_167 : decode cX6_distanceOf 167 = .ok (.aload_n 0, 1) := by decide +kernel
theorem dX6_distanceOf_168 : decode cX6_distanceOf 168 = .ok (.getfield 61, 3) := by decide +kernel
theorem dX6_distanceOf_171 : decode cX6_distanceOf 171 = .ok (.bipush 13, 2) := by decide +kernel
theorem dX6_distanceOf_173 : decode cX6_distanceOf 173 = .ok (.aload_n 0, 1) := by decide +kernel
theorem dX6_distanceOf_174 : decode cX6_distanceOf 174 = .ok (.getfield 43, 3) := by decide +kernel
theorem dX6_distanceOf_177 : decode cX6_distanceOf 177 = .ok (.iload_n 1, 1) := by decide +kernel
theorem dX6_distanceOf_178 : decode cX6_distanceOf 178 = .ok (.iaload, 1) := by decide +kernel
theorem dX6_distanceOf_179 : decode cX6_distanceOf 179 = .ok (.imul, 1) := by decide +kernel
theorem dX6_distanceOf_180 : decode cX6_distanceOf 180 = .ok (.aload_n 0, 1) := by decide +kernel
theorem dX6_distanceOf_181 : decode cX6_distanceOf 181 = .ok (.getfield 43, 3) := by decide +kernel
theorem dX6_distanceOf_184 : decode cX6_distanceOf 184 = .ok (.iload_n 2, 1) := by decide +kernel
theorem dX6_distanceOf_185 : decode cX6_distanceOf 185 = .ok (.iaload, 1) := by decide +kernel
theorem dX6_distanceOf_186 : decode cX6_distanceOf 186 = .ok (.iadd, 1) := by decide +kernel
theorem dX6_distanceOf_187 : decode cX6_distanceOf 187 = .ok (.iaload, 1) := by decide +kernel
theorem dX6_distanceOf_188 : decode cX6_distanceOf 188 = .ok (.ireturn, 1) := by decide +kernel
theorem dX6_distance_0 : decode cX6_distance 0 = .ok (.aload_n 0, 1) := by decide +kernel
theorem dX6_distance_1 : decode cX6_distance 1 = .ok (.iload_n 1, 1) := by decide +kernel
theorem dX6_distance_2 : decode cX6_distance 2 = .ok (.iload_n 2, 1) := by decide +kernel
theorem dX6_distance_3 : decode cX6_distance 3 = .ok (.invokevirtual 149, 3) := by decide +kernel
theorem dX6_distance_6 : decode cX6_distance 6 = .ok (.ifCond .eq 31, 3) := by decide +kernel
theorem dX6_distance_9 : decode cX6_distance 9 = .ok (.aload_n 0, 1) := by decide +kernel
theorem dX6_distance_10 : decode cX6_distance 10 = .ok (.iload_n 1, 1) := by decide +kernel
theorem dX6_distance_11 : decode cX6_distance 11 = .ok (.iload_n 3, 1) := by decide +kernel
theorem dX6_distance_12 : decode cX6_distance 12 = .ok (.invokevirtual 149, 3) := by decide +kernel
theorem dX6_distance_15 : decode cX6_distance 15 = .ok (.ifCond .eq 22, 3) := by decide +kernel
theorem dX6_distance_18 : decode cX6_distance 18 = .ok (.aload_n 0, 1) := by decide +kernel
theorem dX6_distance_19 : decode cX6_distance 19 = .ok (.bipush 24, 2) := by decide +kernel
theorem dX6_distance_21 : decode cX6_distance 21 = .ok (.iload_n 1, 1) := by decide +kernel
theorem dX6_distance_22 : decode cX6_distance 22 = .ok (.imul, 1) := by decide +kernel
theorem dX6_distance_23 : decode cX6_distance 23 = .ok (.iload_n 2, 1) := by decide +kernel
theorem dX6_distance_24 : decode cX6_distance 24 = .ok (.iadd, 1) := by decide +kernel
theorem dX6_distance_25 : decode cX6_distance 25 = .ok (.bipush 24, 2) := by decide +kernel
theorem dX6_distance_27 : decode cX6_distance 27 = .ok (.iload_n 1, 1) := by decide +kernel
theorem dX6_distance_28 : decode cX6_distance 28 = .ok (.imul, 1) := by decide +kernel
theorem dX6_distance_29 : decode cX6_distance 29 = .ok (.iload_n 3, 1) := by decide +kernel
theorem dX6_distance_30 : decode cX6_distance 30 = .ok (.iadd, 1) := by decide +kernel
theorem dX6_distance_31 : decode cX6_distance 31 = .ok (.invokevirtual 196, 3) := by decide +kernel
theorem dX6_distance_34 : decode cX6_distance 34 = .ok (.goto 4, 3) := by decide +kernel
theorem dX6_distance_37 : decode cX6_distance 37 = .ok (.iconst (-1), 1) := by decide +kernel
theorem dX6_distance_38 : decode cX6_distance 38 = .ok (.ireturn, 1) := by decide +kernel
theorem dX6_hangs_0 : decode cX6_hangs 0 = .ok (.iconst 0, 1) := by decide +kernel
theorem dX6_hangs_1 : decode cX6_hangs 1 = .ok (.istore_n 3, 1) := by decide +kernel
theorem dX6_hangs_2 : decode cX6_hangs 2 = .ok (.iload_n 3, 1) := by decide +kernel
theorem dX6_hangs_3 : decode cX6_hangs 3 = .ok (.bipush 24, 2) := by decide +kernel
theorem dX6_hangs_5 : decode cX6_hangs 5 = .ok (.if_icmp .ge 16, 3) := by decide +kernel
theorem dX6_hangs_8 : decode cX6_hangs 8 = .ok (.aload_n 0, 1) := by decide +kernel
theorem dX6_hangs_9 : decode cX6_hangs 9 = .ok (.getfield 64, 3) := by decide +kernel
theorem dX6_hangs_12 : decode cX6_hangs 12 = .ok (.iload_n 3, 1) := by decide +kernel
theorem dX6_hangs_13 : decode cX6_hangs 13 = .ok (.iload_n 3, 1) := by decide +kernel
theorem dX6_hangs_14 : decode cX6_hangs 14 = .ok (.iastore, 1) := by decide +kernel
theorem dX6_hangs_15 : decode cX6_hangs 15 = .ok (.iinc 3 1, 3) := by decide +kernel
theorem dX6_hangs_18 : decode cX6_hangs 18 = .ok (.goto (-16), 3) := by decide +kernel
theorem dX6_hangs_21 : decode cX6_hangs 21 = .ok (.iconst 1, 1) := by decide +kernel
theorem dX6_hangs_22 : decode cX6_hangs 22 = .ok (.istore_n 3, 1) := by decide +kernel
theorem dX6_hangs_23 : decode cX6_hangs 23 = .ok (.iload_n 3, 1) := by decide +kernel
theorem dX6_hangs_24 : decode cX6_hangs 24 = .ok (.ifCond .eq 128, 3) := by decide +kernel
theorem dX6_hangs_27 : decode cX6_hangs 27 = .ok (.iconst 0, 1) := by decide +kernel
theorem dX6_hangs_28 : decode cX6_hangs 28 = .ok (.istore_n 3, 1) := by decide +kernel
theorem dX6_hangs_29 : decode cX6_hangs 29 = .ok (.iconst 0, 1) := by decide +kernel
theorem dX6_hangs_30 : decode cX6_hangs 30 = .ok (.istore 4, 2) := by decide +kernel
theorem dX6_hangs_32 : decode cX6_hangs 32 = .ok (.iload 4, 2) := by decide +kernel
theorem dX6_hangs_34 : decode cX6_hangs 34 = .ok (.bipush 24, 2) := by decide +kernel
theorem dX6_hangs_36 : decode cX6_hangs 36 = .ok (.if_icmp .ge 113, 3) := by decide +kernel
theorem dX6_hangs_39 : decode cX6_hangs 39 = .ok (.iconst 0, 1) := by decide +kernel
theorem dX6_hangs_40 : decode cX6_hangs 40 = .ok (.istore 5, 2) := by decide +kernel
theorem dX6_hangs_42 : decode cX6_hangs 42 = .ok (.iload 5, 2) := by decide +kernel
theorem dX6_hangs_44 : decode cX6_hangs 44 = .ok (.bipush 24, 2) := by decide +kernel
theorem dX6_hangs_46 : decode cX6_hangs 46 = .ok (.if_icmp .ge 97, 3) := by decide +kernel
theorem dX6_hangs_49 : decode cX6_hangs 49 = .ok (.aload_n 0, 1) := by decide +kernel
theorem dX6_hangs_50 : decode cX6_hangs 50 = .ok (.getfield 64, 3) := by decide +kernel
theorem dX6_hangs_53 : decode cX6_hangs 53 = .ok (.iload 5, 2) := by decide +kernel
theorem dX6_hangs_55 : decode cX6_hangs 55 = .ok (.iaload, 1) := by decide +kernel
theorem dX6_hangs_56 : decode cX6_hangs 56 = .ok (.aload_n 0, 1) := by decide +kernel
theorem dX6_hangs_57 : decode cX6_hangs 57 = .ok (.getfield 64, 3) := by decide +kernel
theorem dX6_hangs_60 : decode cX6_hangs 60 = .ok (.iload 4, 2) := by decide +kernel
theorem dX6_hangs_62 : decode cX6_hangs 62 = .ok (.iaload, 1) := by decide +kernel
theorem dX6_hangs_63 : decode cX6_hangs 63 = .ok (.if_icmp .ge 74, 3) := by decide +kernel
theorem dX6_hangs_66 : decode cX6_hangs 66 = .ok (.aload_n 0, 1) := by decide +kernel
theorem dX6_hangs_67 : decode cX6_hangs 67 = .ok (.getfield 27, 3) := by decide +kernel
theorem dX6_hangs_70 : decode cX6_hangs 70 = .ok (.bipush 24, 2) := by decide +kernel
theorem dX6_hangs_72 : decode cX6_hangs 72 = .ok (.iload_n 1, 1) := by decide +kernel
theorem dX6_hangs_73 : decode cX6_hangs 73 = .ok (.imul, 1) := by decide +kernel
theorem dX6_hangs_74 : decode cX6_hangs 74 = .ok (.iload 4, 2) := by decide +kernel
theorem dX6_hangs_76 : decode cX6_hangs 76 = .ok (.iadd, 1) := by decide +kernel
theorem dX6_hangs_77 : decode cX6_hangs 77 = .ok (.baload, 1) := by decide +kernel
theorem dX6_hangs_78 : decode cX6_hangs 78 = .ok (.ifCond .eq 59, 3) := by decide +kernel
theorem dX6_hangs_81 : decode cX6_hangs 81 = .ok (.aload_n 0, 1) := by decide +kernel
theorem dX6_hangs_82 : decode cX6_hangs 82 = .ok (.getfield 27, 3) := by decide +kernel
theorem dX6_hangs_85 : decode cX6_hangs 85 = .ok (.bipush 24, 2) := by decide +kernel
theorem dX6_hangs_87 : decode cX6_hangs 87 = .ok (.iload_n 1, 1) := by decide +kernel
theorem dX6_hangs_88 : decode cX6_hangs 88 = .ok (.imul, 1) := by decide +kernel
theorem dX6_hangs_89 : decode cX6_hangs 89 = .ok (.iload 5, 2) := by decide +kernel
theorem dX6_hangs_91 : decode cX6_hangs 91 = .ok (.iadd, 1) := by decide +kernel
theorem dX6_hangs_92 : decode cX6_hangs 92 = .ok (.baload, 1) := by decide +kernel
theorem dX6_hangs_93 : decode cX6_hangs 93 = .ok (.ifCond .eq 44, 3) := by decide +kernel
theorem dX6_hangs_96 : decode cX6_hangs 96 = .ok (.aload_n 0, 1) := by decide +kernel
theorem dX6_hangs_97 : decode cX6_hangs 97 = .ok (.bipush 24, 2) := by decide +kernel
theorem dX6_hangs_99 : decode cX6_hangs 99 = .ok (.iload_n 1, 1) := by decide +kernel
theorem dX6_hangs_100 : decode cX6_hangs 100 = .ok (.imul, 1) := by decide +kernel
theorem dX6_hangs_101 : decode cX6_hangs 101 = .ok (.iload 4, 2) := by decide +kernel
theorem dX6_hangs_103 : decode cX6_hangs 103 = .ok (.iadd, 1) := by decide +kernel
theorem dX6_hangs_104 : decode cX6_hangs 104 = .ok (.bipush 24, 2) := by decide +kernel
theorem dX6_hangs_106 : decode cX6_hangs 106 = .ok (.iload_n 1, 1) := by decide +kernel
theorem dX6_hangs_107 : decode cX6_hangs 107 = .ok (.imul, 1) := by decide +kernel
theorem dX6_hangs_108 : decode cX6_hangs 108 = .ok (.iload 5, 2) := by decide +kernel
theorem dX6_hangs_110 : decode cX6_hangs 110 = .ok (.iadd, 1) := by decide +kernel
theorem dX6_hangs_111 : decode cX6_hangs 111 = .ok (.invokevirtual 196, 3) := by decide +kernel
theorem dX6_hangs_114 : decode cX6_hangs 114 = .ok (.iload_n 2, 1) := by decide +kernel
theorem dX6_hangs_115 : decode cX6_hangs 115 = .ok (.if_icmp .le 6, 3) := by decide +kernel
theorem dX6_hangs_118 : decode cX6_hangs 118 = .ok (.goto 19, 3) := by decide +kernel
theorem dX6_hangs_121 : decode cX6_hangs 121 = .ok (.aload_n 0, 1) := by decide +kernel
theorem dX6_hangs_122 : decode cX6_hangs 122 = .ok (.getfield 64, 3) := by decide +kernel
theorem dX6_hangs_125 : decode cX6_hangs 125 = .ok (.iload 4, 2) := by decide +kernel
theorem dX6_hangs_127 : decode cX6_hangs 127 = .ok (.aload_n 0, 1) := by decide +kernel
theorem dX6_hangs_128 : decode cX6_hangs 128 = .ok (.getfield 64, 3) := by decide +kernel
theorem dX6_hangs_131 : decode cX6_hangs 131 = .ok (.iload 5, 2) := by decide +kernel
theorem dX6_hangs_133 : decode cX6_hangs 133 = .ok (.iaload, 1) := by decide +kernel
theorem dX6_hangs_134 : decode cX6_hangs 134 = .ok (.iastore, 1) := by decide +kernel
theorem dX6_hangs_135 : decode cX6_hangs 135 = .ok (.iconst 1, 1) := by decide +kernel
theorem dX6_hangs_136 : decode cX6_hangs 136 = .ok (.istore_n 3, 1) := by decide +kernel
theorem dX6_hangs_137 : decode cX6_hangs 137 = .ok (.iinc 5 1, 3) := by decide +kernel
theorem dX6_hangs_140 : decode cX6_hangs 140 = .ok (.goto (-98), 3) := by decide +kernel
theorem dX6_hangs_143 : decode cX6_hangs 143 = .ok (.iinc 4 1, 3) := by decide +kernel
theorem dX6_hangs_146 : decode cX6_hangs 146 = .ok (.goto (-114), 3) := by decide +kernel
theorem dX6_hangs_149 : decode cX6_hangs 149 = .ok (.goto (-126), 3) := by decide +kernel
theorem dX6_hangs_152 : decode cX6_hangs 152 = .ok (.return_, 1) := by decide +kernel
theorem dX6_heaps_0 : decode cX6_heaps 0 = .ok (.aload_n 0, 1) := by decide +kernel
theorem dX6_heaps_1 : decode cX6_heaps 1 = .ok (.iload_n 1, 1) := by decide +kernel
theorem dX6_heaps_2 : decode cX6_heaps 2 = .ok (.invokevirtual 145, 3) := by decide +kernel
theorem dX6_heaps_5 : decode cX6_heaps 5 = .ok (.ifCond .eq 13, 3) := by decide +kernel
theorem dX6_heaps_8 : decode cX6_heaps 8 = .ok (.iload_n 2, 1) := by decide +kernel
theorem dX6_heaps_9 : decode cX6_heaps 9 = .ok (.iconst 0, 1) := by decide +kernel
theorem dX6_heaps_10 : decode cX6_heaps 10 = .ok (.bipush 24, 2) := by decide +kernel
theorem dX6_heaps_12 : decode cX6_heaps 12 = .ok (.invokestatic 84, 3) := by decide +kernel
theorem dX6_heaps_15 : decode cX6_heaps 15 = .ok (.ifCond .ne 5, 3) := by decide +kernel
theorem dX6_heaps_18 : decode cX6_heaps 18 = .ok (.iconst (-1), 1) := by decide +kernel
theorem dX6_heaps_19 : decode cX6_heaps 19 = .ok (.ireturn, 1) := by decide +kernel
theorem dX6_heaps_20 : decode cX6_heaps 20 = .ok (.aload_n 0, 1) := by decide +kernel
theorem dX6_heaps_21 : decode cX6_heaps 21 = .ok (.iload_n 1, 1) := by decide +kernel
theorem dX6_heaps_22 : decode cX6_heaps 22 = .ok (.iload_n 2, 1) := by decide +kernel
theorem dX6_heaps_23 : decode cX6_heaps 23 = .ok (.invokevirtual 199, 3) := by decide +kernel
theorem dX6_heaps_26 : decode cX6_heaps 26 = .ok (.iconst 0, 1) := by decide +kernel
theorem dX6_heaps_27 : decode cX6_heaps 27 = .ok (.istore_n 3, 1) := by decide +kernel
theorem dX6_heaps_28 : decode cX6_heaps 28 = .ok (.iconst 0, 1) := by decide +kernel
theorem dX6_heaps_29 : decode cX6_heaps 29 = .ok (.istore 4, 2) := by decide +kernel
theorem dX6_heaps_31 : decode cX6_heaps 31 = .ok (.iload 4, 2) := by decide +kernel
theorem dX6_heaps_33 : decode cX6_heaps 33 = .ok (.bipush 24, 2) := by decide +kernel
theorem dX6_heaps_35 : decode cX6_heaps 35 = .ok (.if_icmp .ge 44, 3) := by decide +kernel
theorem dX6_heaps_38 : decode cX6_heaps 38 = .ok (.iload_n 3, 1) := by decide +kernel
theorem dX6_heaps_39 : decode cX6_heaps 39 = .ok (.aload_n 0, 1) := by decide +kernel
theorem dX6_heaps_40 : decode cX6_heaps 40 = .ok (.getfield 27, 3) := by decide +kernel
theorem dX6_heaps_43 : decode cX6_heaps 43 = .ok (.bipush 24, 2) := by decide +kernel
theorem dX6_heaps_45 : decode cX6_heaps 45 = .ok (.iload_n 1, 1) := by decide +kernel
theorem dX6_heaps_46 : decode cX6_heaps 46 = .ok (.imul, 1) := by decide +kernel
theorem dX6_heaps_47 : decode cX6_heaps 47 = .ok (.iload 4, 2) := by decide +kernel
theorem dX6_heaps_49 : decode cX6_heaps 49 = .ok (.iadd, 1) := by decide +kernel
theorem dX6_heaps_50 : decode cX6_heaps 50 = .ok (.baload, 1) := by decide +kernel
theorem dX6_heaps_51 : decode cX6_heaps 51 = .ok (.ifCond .eq 19, 3) := by decide +kernel
theorem dX6_heaps_54 : decode cX6_heaps 54 = .ok (.aload_n 0, 1) := by decide +kernel
theorem dX6_heaps_55 : decode cX6_heaps 55 = .ok (.getfield 64, 3) := by decide +kernel
theorem dX6_heaps_58 : decode cX6_heaps 58 = .ok (.iload 4, 2) := by decide +kernel
theorem dX6_heaps_60 : decode cX6_heaps 60 = .ok (.iaload, 1) := by decide +kernel
theorem dX6_heaps_61 : decode cX6_heaps 61 = .ok (.iload 4, 2) := by decide +kernel
theorem dX6_heaps_63 : decode cX6_heaps 63 = .ok (.if_icmp .ne 7, 3) := by decide +kernel
theorem dX6_heaps_66 : decode cX6_heaps 66 = .ok (.iconst 1, 1) := by decide +kernel
theorem dX6_heaps_67 : decode cX6_heaps 67 = .ok (.goto 4, 3) := by decide +kernel
theorem dX6_heaps_70 : decode cX6_heaps 70 = .ok (.iconst 0, 1) := by decide +kernel
theorem dX6_heaps_71 : decode cX6_heaps 71 = .ok (.iadd, 1) := by decide +kernel
theorem dX6_heaps_72 : decode cX6_heaps 72 = .ok (.istore_n 3, 1) := by decide +kernel
theorem dX6_heaps_73 : decode cX6_heaps 73 = .ok (.iinc 4 1, 3) := by decide +kernel
theorem dX6_heaps_76 : decode cX6_heaps 76 = .ok (.goto (-45), 3) := by decide +kernel
theorem dX6_heaps_79 : decode cX6_heaps 79 = .ok (.iload_n 3, 1) := by decide +kernel
theorem dX6_heaps_80 : decode cX6_heaps 80 = .ok (.ireturn, 1) := by decide +kernel
theorem dX6_heap_0 : decode cX6_heap 0 = .ok (.aload_n 0, 1) := by decide +kernel
theorem dX6_heap_1 : decode cX6_heap 1 = .ok (.iload_n 1, 1) := by decide +kernel
theorem dX6_heap_2 : decode cX6_heap 2 = .ok (.iload_n 3, 1) := by decide +kernel
theorem dX6_heap_3 : decode cX6_heap 3 = .ok (.invokevirtual 149, 3) := by decide +kernel
theorem dX6_heap_6 : decode cX6_heap 6 = .ok (.ifCond .eq 13, 3) := by decide +kernel
theorem dX6_heap_9 : decode cX6_heap 9 = .ok (.iload_n 2, 1) := by decide +kernel
theorem dX6_heap_10 : decode cX6_heap 10 = .ok (.iconst 0, 1) := by decide +kernel
theorem dX6_heap_11 : decode cX6_heap 11 = .ok (.bipush 24, 2) := by decide +kernel
theorem dX6_heap_13 : decode cX6_heap 13 = .ok (.invokestatic 84, 3) := by decide +kernel
theorem dX6_heap_16 : decode cX6_heap 16 = .ok (.ifCond .ne 5, 3) := by decide +kernel
theorem dX6_heap_19 : decode cX6_heap 19 = .ok (.iconst (-1), 1) := by decide +kernel
theorem dX6_heap_20 : decode cX6_heap 20 = .ok (.ireturn, 1) := by decide +kernel
theorem dX6_heap_21 : decode cX6_heap 21 = .ok (.aload_n 0, 1) := by decide +kernel
theorem dX6_heap_22 : decode cX6_heap 22 = .ok (.iload_n 1, 1) := by decide +kernel
theorem dX6_heap_23 : decode cX6_heap 23 = .ok (.iload_n 2, 1) := by decide +kernel
theorem dX6_heap_24 : decode cX6_heap 24 = .ok (.invokevirtual 199, 3) := by decide +kernel
theorem dX6_heap_27 : decode cX6_heap 27 = .ok (.aload_n 0, 1) := by decide +kernel
theorem dX6_heap_28 : decode cX6_heap 28 = .ok (.getfield 64, 3) := by decide +kernel
theorem dX6_heap_31 : decode cX6_heap 31 = .ok (.iload_n 3, 1) := by decide +kernel
theorem dX6_heap_32 : decode cX6_heap 32 = .ok (.iaload, 1) := by decide +kernel
theorem dX6_heap_33 : decode cX6_heap 33 = .ok (.ireturn, 1) := by decide +kernel
theorem dX6_order_0 : decode cX6_order 0 = .ok (.iconst 0, 1) := by decide +kernel
theorem dX6_order_1 : decode cX6_order 1 = .ok (.istore_n 2, 1) := by decide +kernel
theorem dX6_order_2 : decode cX6_order 2 = .ok (.iload_n 2, 1) := by decide +kernel
theorem dX6_order_3 : decode cX6_order 3 = .ok (.aload_n 0, 1) := by decide +kernel
theorem dX6_order_4 : decode cX6_order 4 = .ok (.getfield 136, 3) := by decide +kernel
theorem dX6_order_7 : decode cX6_order 7 = .ok (.if_icmp .ge 60, 3) := by decide +kernel
theorem dX6_order_10 : decode cX6_order 10 = .ok (.iconst 0, 1) := by decide +kernel
theorem dX6_order_11 : decode cX6_order 11 = .ok (.istore_n 3, 1) := by decide +kernel
theorem dX6_order_12 : decode cX6_order 12 = .ok (.iconst 0, 1) := by decide +kernel
theorem dX6_order_13 : decode cX6_order 13 = .ok (.istore 4, 2) := by decide +kernel
theorem dX6_order_15 : decode cX6_order 15 = .ok (.iload 4, 2) := by decide +kernel
theorem dX6_order_17 : decode cX6_order 17 = .ok (.aload_n 0, 1) := by decide +kernel
theorem dX6_order_18 : decode cX6_order 18 = .ok (.getfield 136, 3) := by decide +kernel
theorem dX6_order_21 : decode cX6_order 21 = .ok (.if_icmp .ge 33, 3) := by decide +kernel
theorem dX6_order_24 : decode cX6_order 24 = .ok (.iload_n 3, 1) := by decide +kernel
theorem dX6_order_25 : decode cX6_order 25 = .ok (.aload_n 0, 1) := by decide +kernel
theorem dX6_order_26 : decode cX6_order 26 = .ok (.getfield 20, 3) := by decide +kernel
theorem dX6_order_29 : decode cX6_order 29 = .ok (.iload 4, 2) := by decide +kernel
theorem dX6_order_31 : decode cX6_order 31 = .ok (.iaload, 1) := by decide +kernel
theorem dX6_order_32 : decode cX6_order 32 = .ok (.aload_n 0, 1) := by decide +kernel
theorem dX6_order_33 : decode cX6_order 33 = .ok (.getfield 20, 3) := by decide +kernel
theorem dX6_order_36 : decode cX6_order 36 = .ok (.iload_n 2, 1) := by decide +kernel
theorem dX6_order_37 : decode cX6_order 37 = .ok (.iaload, 1) := by decide +kernel
theorem dX6_order_38 : decode cX6_order 38 = .ok (.if_icmp .ge 7, 3) := by decide +kernel
theorem dX6_order_41 : decode cX6_order 41 = .ok (.iconst 1, 1) := by decide +kernel
theorem dX6_order_42 : decode cX6_order 42 = .ok (.goto 4, 3) := by decide +kernel
theorem dX6_order_45 : decode cX6_order 45 = .ok (.iconst 0, 1) := by decide +kernel
theorem dX6_order_46 : decode cX6_order 46 = .ok (.iadd, 1) := by decide +kernel
theorem dX6_order_47 : decode cX6_order 47 = .ok (.istore_n 3, 1) := by decide +kernel
theorem dX6_order_48 : decode cX6_order 48 = .ok (.iinc 4 1, 3) := by decide +kernel
theorem dX6_order_51 : decode cX6_order 51 = .ok (.goto (-36), 3) := by decide +kernel
theorem dX6_order_54 : decode cX6_order 54 = .ok (.iload_n 3, 1) := by decide +kernel
theorem dX6_order_55 : decode cX6_order 55 = .ok (.iload_n 1, 1) := by decide +kernel
theorem dX6_order_56 : decode cX6_order 56 = .ok (.if_icmp .ne 5, 3) := by decide +kernel
theorem dX6_order_59 : decode cX6_order 59 = .ok (.iload_n 2, 1) := by decide +kernel
theorem dX6_order_60 : decode cX6_order 60 = .ok (.ireturn, 1) := by decide +kernel
theorem dX6_order_61 : decode cX6_order 61 = .ok (.iinc 2 1, 3) := by decide +kernel
theorem dX6_order_64 : decode cX6_order 64 = .ok (.goto (-62), 3) := by decide +kernel
theorem dX6_order_67 : decode cX6_order 67 = .ok (.iconst (-1), 1) := by decide +kernel
theorem dX6_order_68 : decode cX6_order 68 = .ok (.ireturn, 1) := by decide +kernel
theorem dX6_count_0 : decode cX6_count 0 = .ok (.iload_n 1, 1) := by decide +kernel
theorem dX6_count_1 : decode cX6_count 1 = .ok (.iconst (-1), 1) := by decide +kernel
theorem dX6_count_2 : decode cX6_count 2 = .ok (.if_icmp .ne 52, 3) := by decide +kernel
theorem dX6_count_5 : decode cX6_count 5 = .ok (.iload_n 2, 1) := by decide +kernel
theorem dX6_count_6 : decode cX6_count 6 = .ok (.ifCond .ne 10, 3) := by decide +kernel
theorem dX6_count_9 : decode cX6_count 9 = .ok (.aload_n 0, 1) := by decide +kernel
theorem dX6_count_10 : decode cX6_count 10 = .ok (.getfield 136, 3) := by decide +kernel
theorem dX6_count_13 : decode cX6_count 13 = .ok (.goto 40, 3) := by decide +kernel
theorem dX6_count_16 : decode cX6_count 16 = .ok (.iload_n 2, 1) := by decide +kernel
theorem dX6_count_17 : decode cX6_count 17 = .ok (.iconst 1, 1) := by decide +kernel
theorem dX6_count_18 : decode cX6_count 18 = .ok (.if_icmp .ne 10, 3) := by decide +kernel
theorem dX6_count_21 : decode cX6_count 21 = .ok (.aload_n 0, 1) := by decide +kernel
theorem dX6_count_22 : decode cX6_count 22 = .ok (.getfield 67, 3) := by decide +kernel
theorem dX6_count_25 : decode cX6_count 25 = .ok (.goto 28, 3) := by decide +kernel
theorem dX6_count_28 : decode cX6_count 28 = .ok (.iload_n 2, 1) := by decide +kernel
theorem dX6_count_29 : decode cX6_count 29 = .ok (.iconst 2, 1) := by decide +kernel
theorem dX6_count_30 : decode cX6_count 30 = .ok (.if_icmp .ne 10, 3) := by decide +kernel
theorem dX6_count_33 : decode cX6_count 33 = .ok (.aload_n 0, 1) := by decide +kernel
theorem dX6_count_34 : decode cX6_count 34 = .ok (.getfield 13, 3) := by decide +kernel
theorem dX6_count_37 : decode cX6_count 37 = .ok (.goto 16, 3) := by decide +kernel
theorem dX6_count_40 : decode cX6_count 40 = .ok (.iload_n 2, 1) := by decide +kernel
theorem dX6_count_41 : decode cX6_count 41 = .ok (.iconst 3, 1) := by decide +kernel
theorem dX6_count_42 : decode cX6_count 42 = .ok (.if_icmp .ne 10, 3) := by decide +kernel
theorem dX6_count_45 : decode cX6_count 45 = .ok (.aload_n 0, 1) := by decide +kernel
theorem dX6_count_46 : decode cX6_count 46 = .ok (.getfield 17, 3) := by decide +kernel
theorem dX6_count_49 : decode cX6_count 49 = .ok (.goto 4, 3) := by decide +kernel
theorem dX6_count_52 : decode cX6_count 52 = .ok (.iconst (-1), 1) := by decide +kernel
theorem dX6_count_53 : decode cX6_count 53 = .ok (.ireturn, 1) := by decide +kernel
theorem dX6_count_54 : decode cX6_count 54 = .ok (.aload_n 0, 1) := by decide +kernel
theorem dX6_count_55 : decode cX6_count 55 = .ok (.iload_n 1, 1) := by decide +kernel
theorem dX6_count_56 : decode cX6_count 56 = .ok (.invokevirtual 145, 3) := by decide +kernel
theorem dX6_count_59 : decode cX6_count 59 = .ok (.ifCond .ne 5, 3) := by decide +kernel
theorem dX6_count_62 : decode cX6_count 62 = .ok (.iconst (-1), 1) := by decide +kernel
theorem dX6_count_63 : decode cX6_count 63 = .ok (.ireturn, 1) := by decide +kernel
theorem dX6_count_64 : decode cX6_count 64 = .ok (.iconst 0, 1) := by decide +kernel
theorem dX6_count_65 : decode cX6_count 65 = .ok (.istore_n 3, 1) := by decide +kernel
theorem dX6_count_66 : decode cX6_count 66 = .ok (.iload_n 2, 1) := by decide +kernel
theorem dX6_count_67 : decode cX6_count 67 = .ok (.tableswitch 169 0 3 #[29, 36, 77, 134], 29) := by decide +kernel
theorem dX6_count_96 : decode cX6_count 96 = .ok (.aload_n 0, 1) := by decide +kernel
theorem dX6_count_97 : decode cX6_count 97 = .ok (.getfield 20, 3) := by decide +kernel
theorem dX6_count_100 : decode cX6_count 100 = .ok (.iload_n 1, 1) := by decide +kernel
theorem dX6_count_101 : decode cX6_count 101 = .ok (.iaload, 1) := by decide +kernel
theorem dX6_count_102 : decode cX6_count 102 = .ok (.ireturn, 1) := by decide +kernel
theorem dX6_count_103 : decode cX6_count 103 = .ok (.iconst 0, 1) := by decide +kernel
theorem dX6_count_104 : decode cX6_count 104 = .ok (.istore 4, 2) := by decide +kernel
theorem dX6_count_106 : decode cX6_count 106 = .ok (.iload 4, 2) := by decide +kernel
theorem dX6_count_108 : decode cX6_count 108 = .ok (.bipush 24, 2) := by decide +kernel
theorem dX6_count_110 : decode cX6_count 110 = .ok (.if_icmp .ge 32, 3) := by decide +kernel
theorem dX6_count_113 : decode cX6_count 113 = .ok (.iload_n 3, 1) := by decide +kernel
theorem dX6_count_114 : decode cX6_count 114 = .ok (.aload_n 0, 1) := by decide +kernel
theorem dX6_count_115 : decode cX6_count 115 = .ok (.getfield 27, 3) := by decide +kernel
theorem dX6_count_118 : decode cX6_count 118 = .ok (.bipush 24, 2) := by decide +kernel
theorem dX6_count_120 : decode cX6_count 120 = .ok (.iload_n 1, 1) := by decide +kernel
theorem dX6_count_121 : decode cX6_count 121 = .ok (.imul, 1) := by decide +kernel
theorem dX6_count_122 : decode cX6_count 122 = .ok (.iload 4, 2) := by decide +kernel
theorem dX6_count_124 : decode cX6_count 124 = .ok (.iadd, 1) := by decide +kernel
theorem dX6_count_125 : decode cX6_count 125 = .ok (.baload, 1) := by decide +kernel
theorem dX6_count_126 : decode cX6_count 126 = .ok (.ifCond .eq 7, 3) := by decide +kernel
theorem dX6_count_129 : decode cX6_count 129 = .ok (.iconst 1, 1) := by decide +kernel
theorem dX6_count_130 : decode cX6_count 130 = .ok (.goto 4, 3) := by decide +kernel
theorem dX6_count_133 : decode cX6_count 133 = .ok (.iconst 0, 1) := by decide +kernel
theorem dX6_count_134 : decode cX6_count 134 = .ok (.iadd, 1) := by decide +kernel
theorem dX6_count_135 : decode cX6_count 135 = .ok (.istore_n 3, 1) := by decide +kernel
theorem dX6_count_136 : decode cX6_count 136 = .ok (.iinc 4 1, 3) := by decide +kernel
theorem dX6_count_139 : decode cX6_count 139 = .ok (.goto (-33), 3) := by decide +kernel
theorem dX6_count_142 : decode cX6_count 142 = .ok (.iload_n 3, 1) := by decide +kernel
theorem dX6_count_143 : decode cX6_count 143 = .ok (.ireturn, 1) := by decide +kernel
theorem dX6_count_144 : decode cX6_count 144 = .ok (.iconst 0, 1) := by decide +kernel
theorem dX6_count_145 : decode cX6_count 145 = .ok (.istore 4, 2) := by decide +kernel
theorem dX6_count_147 : decode cX6_count 147 = .ok (.iload 4, 2) := by decide +kernel
theorem dX6_count_149 : decode cX6_count 149 = .ok (.bipush 24, 2) := by decide +kernel
theorem dX6_count_151 : decode cX6_count 151 = .ok (.if_icmp .ge 48, 3) := by decide +kernel
theorem dX6_count_154 : decode cX6_count 154 = .ok (.iload_n 3, 1) := by decide +kernel
theorem dX6_count_155 : decode cX6_count 155 = .ok (.aload_n 0, 1) := by decide +kernel
theorem dX6_count_156 : decode cX6_count 156 = .ok (.getfield 27, 3) := by decide +kernel
theorem dX6_count_159 : decode cX6_count 159 = .ok (.bipush 24, 2) := by decide +kernel
theorem dX6_count_161 : decode cX6_count 161 = .ok (.iload_n 1, 1) := by decide +kernel
theorem dX6_count_162 : decode cX6_count 162 = .ok (.imul, 1) := by decide +kernel
theorem dX6_count_163 : decode cX6_count 163 = .ok (.iload 4, 2) := by decide +kernel
theorem dX6_count_165 : decode cX6_count 165 = .ok (.iadd, 1) := by decide +kernel
theorem dX6_count_166 : decode cX6_count 166 = .ok (.baload, 1) := by decide +kernel
theorem dX6_count_167 : decode cX6_count 167 = .ok (.ifCond .eq 23, 3) := by decide +kernel
theorem dX6_count_170 : decode cX6_count 170 = .ok (.aload_n 0, 1) := by decide +kernel
theorem dX6_count_171 : decode cX6_count 171 = .ok (.getfield 40, 3) := by decide +kernel
theorem dX6_count_174 : decode cX6_count 174 = .ok (.bipush 24, 2) := by decide +kernel
theorem dX6_count_176 : decode cX6_count 176 = .ok (.iload_n 1, 1) := by decide +kernel
theorem dX6_count_177 : decode cX6_count 177 = .ok (.imul, 1) := by decide +kernel
theorem dX6_count_178 : decode cX6_count 178 = .ok (.iload 4, 2) := by decide +kernel
theorem dX6_count_180 : decode cX6_count 180 = .ok (.iadd, 1) := by decide +kernel
theorem dX6_count_181 : decode cX6_count 181 = .ok (.iaload, 1) := by decide +kernel
theorem dX6_count_182 : decode cX6_count 182 = .ok (.iconst (-1), 1) := by decide +kernel
theorem dX6_count_183 : decode cX6_count 183 = .ok (.if_icmp .eq 7, 3) := by decide +kernel
theorem dX6_count_186 : decode cX6_count 186 = .ok (.iconst 1, 1) := by decide +kernel
theorem dX6_count_187 : decode cX6_count 187 = .ok (.goto 4, 3) := by decide +kernel
theorem dX6_count_190 : decode cX6_count 190 = .ok (.iconst 0, 1) := by decide +kernel
theorem dX6_count_191 : decode cX6_count 191 = .ok (.iadd, 1) := by decide +kernel
theorem dX6_count_192 : decode cX6_count 192 = .ok (.istore_n 3, 1) := by decide +kernel
theorem dX6_count_193 : decode cX6_count 193 = .ok (.iinc 4 1, 3) := by decide +kernel
theorem dX6_count_196 : decode cX6_count 196 = .ok (.goto (-49), 3) := by decide +kernel
theorem dX6_count_199 : decode cX6_count 199 = .ok (.iload_n 3, 1) := by decide +kernel
theorem dX6_count_200 : decode cX6_count 200 = .ok (.ireturn, 1) := by decide +kernel
theorem dX6_count_201 : decode cX6_count 201 = .ok (.aload_n 0, 1) := by decide +kernel
theorem dX6_count_202 : decode cX6_count 202 = .ok (.iload_n 1, 1) := by decide +kernel
theorem dX6_count_203 : decode cX6_count 203 = .ok (.invokevirtual 105, 3) := by decide +kernel
theorem dX6_count_206 : decode cX6_count 206 = .ok (.istore 4, 2) := by decide +kernel
theorem dX6_count_208 : decode cX6_count 208 = .ok (.iconst 0, 1) := by decide +kernel
theorem dX6_count_209 : decode cX6_count 209 = .ok (.istore 5, 2) := by decide +kernel
theorem dX6_count_211 : decode cX6_count 211 = .ok (.iload 5, 2) := by decide +kernel
theorem dX6_count_213 : decode cX6_count 213 = .ok (.bipush 16, 2) := by decide +kernel
theorem dX6_count_215 : decode cX6_count 215 = .ok (.if_icmp .ge 19, 3) := by decide +kernel
theorem dX6_count_218 : decode cX6_count 218 = .ok (.iload_n 3, 1) := by decide +kernel
theorem dX6_count_219 : decode cX6_count 219 = .ok (.iload 4, 2) := by decide +kernel
theorem dX6_count_221 : decode cX6_count 221 = .ok (.iload 5, 2) := by decide +kernel
theorem dX6_count_223 : decode cX6_count 223 = .ok (.ishr, 1) := by decide +kernel
theorem dX6_count_224 : decode cX6_count 224 = .ok (.iconst 1, 1) := by decide +kernel
theorem dX6_count_225 : decode cX6_count 225 = .ok (.iand, 1) := by decide +kernel
theorem dX6_count_226 : decode cX6_count 226 = .ok (.iadd, 1) := by decide +kernel
theorem dX6_count_227 : decode cX6_count 227 = .ok (.istore_n 3, 1) := by decide +kernel
theorem dX6_count_228 : decode cX6_count 228 = .ok (.iinc 5 1, 3) := by decide +kernel
theorem dX6_count_231 : decode cX6_count 231 = .ok (.goto (-20), 3) := by decide +kernel
theorem dX6_count_234 : decode cX6_count 234 = .ok (.iload_n 3, 1) := by decide +kernel
theorem dX6_count_235 : decode cX6_count 235 = .ok (.ireturn, 1) := by decide +kernel
theorem dX6_count_236 : decode cX6_count 236 = .ok (.iconst (-1), 1) := by decide +kernel
theorem dX6_count_237 : decode cX6_count 237 = .ok (.ireturn, 1) := by decide +kernel
theorem dJ9_floorMod_7cf53_0 : decode cJ9_floorMod_7cf53 0 = .ok (.iload_n 0, 1) := by decide +kernel
theorem dJ9_floorMod_7cf53_1 : decode cJ9_floorMod_7cf53 1 = .ok (.iload_n 1, 1) := by decide +kernel
theorem dJ9_floorMod_7cf53_2 : decode cJ9_floorMod_7cf53 2 = .ok (.irem, 1) := by decide +kernel
theorem dJ9_floorMod_7cf53_3 : decode cJ9_floorMod_7cf53 3 = .ok (.istore_n 2, 1) := by decide +kernel
theorem dJ9_floorMod_7cf53_4 : decode cJ9_floorMod_7cf53 4 = .ok (.iload_n 0, 1) := by decide +kernel
theorem dJ9_floorMod_7cf53_5 : decode cJ9_floorMod_7cf53 5 = .ok (.iload_n 1, 1) := by decide +kernel
theorem dJ9_floorMod_7cf53_6 : decode cJ9_floorMod_7cf53 6 = .ok (.ixor, 1) := by decide +kernel
theorem dJ9_floorMod_7cf53_7 : decode cJ9_floorMod_7cf53 7 = .ok (.ifCond .ge 11, 3) := by decide +kernel
theorem dJ9_floorMod_7cf53_10 : decode cJ9_floorMod_7cf53 10 = .ok (.iload_n 2, 1) := by decide +kernel
theorem dJ9_floorMod_7cf53_11 : decode cJ9_floorMod_7cf53 11 = .ok (.ifCond .eq 7, 3) := by decide +kernel
theorem dJ9_floorMod_7cf53_14 : decode cJ9_floorMod_7cf53 14 = .ok (.iload_n 2, 1) := by decide +kernel
theorem dJ9_floorMod_7cf53_15 : decode cJ9_floorMod_7cf53 15 = .ok (.iload_n 1, 1) := by decide +kernel
theorem dJ9_floorMod_7cf53_16 : decode cJ9_floorMod_7cf53 16 = .ok (.iadd, 1) := by decide +kernel
theorem dJ9_floorMod_7cf53_17 : decode cJ9_floorMod_7cf53 17 = .ok (.ireturn, 1) := by decide +kernel
theorem dJ9_floorMod_7cf53_18 : decode cJ9_floorMod_7cf53 18 = .ok (.iload_n 2, 1) := by decide +kernel
theorem dJ9_floorMod_7cf53_19 : decode cJ9_floorMod_7cf53 19 = .ok (.ireturn, 1) := by decide +kernel
theorem dJ9_min_7cf53_0 : decode cJ9_min_7cf53 0 = .ok (.iload_n 0, 1) := by decide +kernel
theorem dJ9_min_7cf53_1 : decode cJ9_min_7cf53 1 = .ok (.iload_n 1, 1) := by decide +kernel
theorem dJ9_min_7cf53_2 : decode cJ9_min_7cf53 2 = .ok (.if_icmp .gt 7, 3) := by decide +kernel
theorem dJ9_min_7cf53_5 : decode cJ9_min_7cf53 5 = .ok (.iload_n 0, 1) := by decide +kernel
theorem dJ9_min_7cf53_6 : decode cJ9_min_7cf53 6 = .ok (.goto 4, 3) := by decide +kernel
theorem dJ9_min_7cf53_9 : decode cJ9_min_7cf53 9 = .ok (.iload_n 1, 1) := by decide +kernel
theorem dJ9_min_7cf53_10 : decode cJ9_min_7cf53 10 = .ok (.ireturn, 1) := by decide +kernel
