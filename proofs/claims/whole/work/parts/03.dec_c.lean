theorem dX6_number_40 : decode cX6_number 40 = .ok (.aload_n 0, 1) := by decide +kernel
theorem dX6_number_41 : decode cX6_number 41 = .ok (.getfield 74, 3) := by decide +kernel
theorem dX6_number_44 : decode cX6_number 44 = .ok (.aload_n 0, 1) := by decide +kernel
theorem dX6_number_45 : decode cX6_number 45 = .ok (.getfield 91, 3) := by decide +kernel
theorem dX6_number_48 : decode cX6_number 48 = .ok (.iload_n 1, 1) := by decide +kernel
theorem dX6_number_49 : decode cX6_number 49 = .ok (.iadd, 1) := by decide +kernel
theorem dX6_number_50 : decode cX6_number 50 = .ok (.if_icmp .ne 11, 3) := by decide +kernel
theorem dX6_number_53 : decode cX6_number 53 = .ok (.aload_n 0, 1) := by decide +kernel
theorem dX6_number_54 : decode cX6_number 54 = .ok (.aload_n 0, 1) := by decide +kernel
theorem dX6_number_55 : decode cX6_number 55 = .ok (.getfield 74, 3) := by decide +kernel
theorem dX6_number_58 : decode cX6_number 58 = .ok (.invokevirtual 98, 3) := by decide +kernel
theorem dX6_number_61 : decode cX6_number 61 = .ok (.bipush 10, 2) := by decide +kernel
theorem dX6_number_63 : decode cX6_number 63 = .ok (.iload_n 3, 1) := by decide +kernel
theorem dX6_number_64 : decode cX6_number 64 = .ok (.imul, 1) := by decide +kernel
theorem dX6_number_65 : decode cX6_number 65 = .ok (.aload_n 0, 1) := by decide +kernel
theorem dX6_number_66 : decode cX6_number 66 = .ok (.invokevirtual 80, 3) := by decide +kernel
theorem dX6_number_69 : decode cX6_number 69 = .ok (.iadd, 1) := by decide +kernel
theorem dX6_number_70 : decode cX6_number 70 = .ok (.bipush 48, 2) := by decide +kernel
theorem dX6_number_72 : decode cX6_number 72 = .ok (.isub, 1) := by decide +kernel
theorem dX6_number_73 : decode cX6_number 73 = .ok (.istore_n 3, 1) := by decide +kernel
theorem dX6_number_74 : decode cX6_number 74 = .ok (.aload_n 0, 1) := by decide +kernel
theorem dX6_number_75 : decode cX6_number 75 = .ok (.dup, 1) := by decide +kernel
theorem dX6_number_76 : decode cX6_number 76 = .ok (.getfield 74, 3) := by decide +kernel
theorem dX6_number_79 : decode cX6_number 79 = .ok (.iconst 1, 1) := by decide +kernel
theorem dX6_number_80 : decode cX6_number 80 = .ok (.iadd, 1) := by decide +kernel
theorem dX6_number_81 : decode cX6_number 81 = .ok (.putfield 74, 3) := by decide +kernel
theorem dX6_number_84 : decode cX6_number 84 = .ok (.goto (-59), 3) := by decide +kernel
theorem dX6_number_87 : decode cX6_number 87 = .ok (.aload_n 0, 1) := by decide +kernel
theorem dX6_number_88 : decode cX6_number 88 = .ok (.getfield 88, 3) := by decide +kernel
theorem dX6_number_91 : decode cX6_number 91 = .ok (.iconst (-1), 1) := by decide +kernel
theorem dX6_number_92 : decode cX6_number 92 = .ok (.if_icmp .ne 16, 3) := by decide +kernel
theorem dX6_number_95 : decode cX6_number 95 = .ok (.iload_n 3, 1) := by decide +kernel
theorem dX6_number_96 : decode cX6_number 96 = .ok (.iload_n 2, 1) := by decide +kernel
theorem dX6_number_97 : decode cX6_number 97 = .ok (.if_icmp .le 11, 3) := by decide +kernel
theorem dX6_number_100 : decode cX6_number 100 = .ok (.aload_n 0, 1) := by decide +kernel
theorem dX6_number_101 : decode cX6_number 101 = .ok (.aload_n 0, 1) := by decide +kernel
theorem dX6_number_102 : decode cX6_number 102 = .ok (.getfield 91, 3) := by decide +kernel
theorem dX6_number_105 : decode cX6_number 105 = .ok (.invokevirtual 98, 3) := by decide +kernel
theorem dX6_number_108 : decode cX6_number 108 = .ok (.iload_n 3, 1) := by decide +kernel
theorem dX6_number_109 : decode cX6_number 109 = .ok (.ireturn, 1) := by decide +kernel
theorem dX6_heldBy_0 : decode cX6_heldBy 0 = .ok (.iconst 0, 1) := by decide +kernel
theorem dX6_heldBy_1 : decode cX6_heldBy 1 = .ok (.istore_n 2, 1) := by decide +kernel
theorem dX6_heldBy_2 : decode cX6_heldBy 2 = .ok (.iconst 0, 1) := by decide +kernel
theorem dX6_heldBy_3 : decode cX6_heldBy 3 = .ok (.istore_n 3, 1) := by decide +kernel
theorem dX6_heldBy_4 : decode cX6_heldBy 4 = .ok (.iload_n 3, 1) := by decide +kernel
theorem dX6_heldBy_5 : decode cX6_heldBy 5 = .ok (.bipush 24, 2) := by decide +kernel
theorem dX6_heldBy_7 : decode cX6_heldBy 7 = .ok (.if_icmp .ge 37, 3) := by decide +kernel
theorem dX6_heldBy_10 : decode cX6_heldBy 10 = .ok (.aload_n 0, 1) := by decide +kernel
theorem dX6_heldBy_11 : decode cX6_heldBy 11 = .ok (.getfield 27, 3) := by decide +kernel
theorem dX6_heldBy_14 : decode cX6_heldBy 14 = .ok (.bipush 24, 2) := by decide +kernel
theorem dX6_heldBy_16 : decode cX6_heldBy 16 = .ok (.iload_n 1, 1) := by decide +kernel
theorem dX6_heldBy_17 : decode cX6_heldBy 17 = .ok (.imul, 1) := by decide +kernel
theorem dX6_heldBy_18 : decode cX6_heldBy 18 = .ok (.iload_n 3, 1) := by decide +kernel
theorem dX6_heldBy_19 : decode cX6_heldBy 19 = .ok (.iadd, 1) := by decide +kernel
theorem dX6_heldBy_20 : decode cX6_heldBy 20 = .ok (.baload, 1) := by decide +kernel
theorem dX6_heldBy_21 : decode cX6_heldBy 21 = .ok (.ifCond .eq 17, 3) := by decide +kernel
theorem dX6_heldBy_24 : decode cX6_heldBy 24 = .ok (.iload_n 2, 1) := by decide +kernel
theorem dX6_heldBy_25 : decode cX6_heldBy 25 = .ok (.aload_n 0, 1) := by decide +kernel
theorem dX6_heldBy_26 : decode cX6_heldBy 26 = .ok (.getfield 37, 3) := by decide +kernel
theorem dX6_heldBy_29 : decode cX6_heldBy 29 = .ok (.bipush 24, 2) := by decide +kernel
theorem dX6_heldBy_31 : decode cX6_heldBy 31 = .ok (.iload_n 1, 1) := by decide +kernel
theorem dX6_heldBy_32 : decode cX6_heldBy 32 = .ok (.imul, 1) := by decide +kernel
theorem dX6_heldBy_33 : decode cX6_heldBy 33 = .ok (.iload_n 3, 1) := by decide +kernel
theorem dX6_heldBy_34 : decode cX6_heldBy 34 = .ok (.iadd, 1) := by decide +kernel
theorem dX6_heldBy_35 : decode cX6_heldBy 35 = .ok (.iaload, 1) := by decide +kernel
theorem dX6_heldBy_36 : decode cX6_heldBy 36 = .ok (.ior, 1) := by decide +kernel
theorem dX6_heldBy_37 : decode cX6_heldBy 37 = .ok (.istore_n 2, 1) := by decide +kernel
theorem dX6_heldBy_38 : decode cX6_heldBy 38 = .ok (.iinc 3 1, 3) := by decide +kernel
theorem dX6_heldBy_41 : decode cX6_heldBy 41 = .ok (.goto (-37), 3) := by decide +kernel
theorem dX6_heldBy_44 : decode cX6_heldBy 44 = .ok (.iload_n 2, 1) := by decide +kernel
theorem dX6_heldBy_45 : decode cX6_heldBy 45 = .ok (.ireturn, 1) := by decide +kernel
theorem dX6_readLocks_0 : decode cX6_readLocks 0 = .ok (.iconst 0, 1) := by decide +kernel
theorem dX6_readLocks_1 : decode cX6_readLocks 1 = .ok (.istore_n 2, 1) := by decide +kernel
theorem dX6_readLocks_2 : decode cX6_readLocks 2 = .ok (.iconst 1, 1) := by decide +kernel
theorem dX6_readLocks_3 : decode cX6_readLocks 3 = .ok (.istore_n 3, 1) := by decide +kernel
theorem dX6_readLocks_4 : decode cX6_readLocks 4 = .ok (.iload_n 3, 1) := by decide +kernel
theorem dX6_readLocks_5 : decode cX6_readLocks 5 = .ok (.ifCond .eq 117, 3) := by decide +kernel
theorem dX6_readLocks_8 : decode cX6_readLocks 8 = .ok (.aload_n 0, 1) := by decide +kernel
theorem dX6_readLocks_9 : decode cX6_readLocks 9 = .ok (.getfield 88, 3) := by decide +kernel
theorem dX6_readLocks_12 : decode cX6_readLocks 12 = .ok (.iconst (-1), 1) := by decide +kernel
theorem dX6_readLocks_13 : decode cX6_readLocks 13 = .ok (.if_icmp .ne 109, 3) := by decide +kernel
theorem dX6_readLocks_16 : decode cX6_readLocks 16 = .ok (.aload_n 0, 1) := by decide +kernel
theorem dX6_readLocks_17 : decode cX6_readLocks 17 = .ok (.dup, 1) := by decide +kernel
theorem dX6_readLocks_18 : decode cX6_readLocks 18 = .ok (.getfield 74, 3) := by decide +kernel
theorem dX6_readLocks_21 : decode cX6_readLocks 21 = .ok (.iconst 1, 1) := by decide +kernel
theorem dX6_readLocks_22 : decode cX6_readLocks 22 = .ok (.iadd, 1) := by decide +kernel
theorem dX6_readLocks_23 : decode cX6_readLocks 23 = .ok (.putfield 74, 3) := by decide +kernel
theorem dX6_readLocks_26 : decode cX6_readLocks 26 = .ok (.aload_n 0, 1) := by decide +kernel
theorem dX6_readLocks_27 : decode cX6_readLocks 27 = .ok (.iconst 2, 1) := by decide +kernel
theorem dX6_readLocks_28 : decode cX6_readLocks 28 = .ok (.bipush 15, 2) := by decide +kernel
theorem dX6_readLocks_30 : decode cX6_readLocks 30 = .ok (.invokevirtual 101, 3) := by decide +kernel
theorem dX6_readLocks_33 : decode cX6_readLocks 33 = .ok (.istore 4, 2) := by decide +kernel
theorem dX6_readLocks_35 : decode cX6_readLocks 35 = .ok (.aload_n 0, 1) := by decide +kernel
theorem dX6_readLocks_36 : decode cX6_readLocks 36 = .ok (.getfield 88, 3) := by decide +kernel
theorem dX6_readLocks_39 : decode cX6_readLocks 39 = .ok (.iconst (-1), 1) := by decide +kernel
theorem dX6_readLocks_40 : decode cX6_readLocks 40 = .ok (.if_icmp .eq 4, 3) := by decide +kernel
theorem dX6_readLocks_43 : decode cX6_readLocks 43 = .ok (.return_, 1) := by decide +kernel
theorem dX6_readLocks_44 : decode cX6_readLocks 44 = .ok (.aload_n 0, 1) := by decide +kernel
theorem dX6_readLocks_45 : decode cX6_readLocks 45 = .ok (.iload_n 1, 1) := by decide +kernel
theorem dX6_readLocks_46 : decode cX6_readLocks 46 = .ok (.invokevirtual 105, 3) := by decide +kernel
theorem dX6_readLocks_49 : decode cX6_readLocks 49 = .ok (.aload_n 0, 1) := by decide +kernel
theorem dX6_readLocks_50 : decode cX6_readLocks 50 = .ok (.getfield 109, 3) := by decide +kernel
theorem dX6_readLocks_53 : decode cX6_readLocks 53 = .ok (.ior, 1) := by decide +kernel
theorem dX6_readLocks_54 : decode cX6_readLocks 54 = .ok (.iload 4, 2) := by decide +kernel
theorem dX6_readLocks_56 : decode cX6_readLocks 56 = .ok (.ishr, 1) := by decide +kernel
theorem dX6_readLocks_57 : decode cX6_readLocks 57 = .ok (.iconst 1, 1) := by decide +kernel
theorem dX6_readLocks_58 : decode cX6_readLocks 58 = .ok (.iand, 1) := by decide +kernel
theorem dX6_readLocks_59 : decode cX6_readLocks 59 = .ok (.iconst 1, 1) := by decide +kernel
theorem dX6_readLocks_60 : decode cX6_readLocks 60 = .ok (.if_icmp .ne 11, 3) := by decide +kernel
theorem dX6_readLocks_63 : decode cX6_readLocks 63 = .ok (.aload_n 0, 1) := by decide +kernel
theorem dX6_readLocks_64 : decode cX6_readLocks 64 = .ok (.aload_n 0, 1) := by decide +kernel
theorem dX6_readLocks_65 : decode cX6_readLocks 65 = .ok (.getfield 91, 3) := by decide +kernel
theorem dX6_readLocks_68 : decode cX6_readLocks 68 = .ok (.invokevirtual 98, 3) := by decide +kernel
theorem dX6_readLocks_71 : decode cX6_readLocks 71 = .ok (.aload_n 0, 1) := by decide +kernel
theorem dX6_readLocks_72 : decode cX6_readLocks 72 = .ok (.dup, 1) := by decide +kernel
theorem dX6_readLocks_73 : decode cX6_readLocks 73 = .ok (.getfield 109, 3) := by decide +kernel
theorem dX6_readLocks_76 : decode cX6_readLocks 76 = .ok (.iconst 1, 1) := by decide +kernel
theorem dX6_readLocks_77 : decode cX6_readLocks 77 = .ok (.iload 4, 2) := by decide +kernel
theorem dX6_readLocks_79 : decode cX6_readLocks 79 = .ok (.ishl, 1) := by decide +kernel
theorem dX6_readLocks_80 : decode cX6_readLocks 80 = .ok (.ior, 1) := by decide +kernel
theorem dX6_readLocks_81 : decode cX6_readLocks 81 = .ok (.putfield 109, 3) := by decide +kernel
theorem dX6_readLocks_84 : decode cX6_readLocks 84 = .ok (.iinc 2 1, 3) := by decide +kernel
theorem dX6_readLocks_87 : decode cX6_readLocks 87 = .ok (.aload_n 0, 1) := by decide +kernel
theorem dX6_readLocks_88 : decode cX6_readLocks 88 = .ok (.invokevirtual 80, 3) := by decide +kernel
theorem dX6_readLocks_91 : decode cX6_readLocks 91 = .ok (.bipush 44, 2) := by decide +kernel
theorem dX6_readLocks_93 : decode cX6_readLocks 93 = .ok (.if_icmp .ne 7, 3) := by decide +kernel
theorem dX6_readLocks_96 : decode cX6_readLocks 96 = .ok (.iconst 1, 1) := by decide +kernel
theorem dX6_readLocks_97 : decode cX6_readLocks 97 = .ok (.goto 4, 3) := by decide +kernel
theorem dX6_readLocks_100 : decode cX6_readLocks 100 = .ok (.iconst 0, 1) := by decide +kernel
theorem dX6_readLocks_101 : decode cX6_readLocks 101 = .ok (.istore_n 3, 1) := by decide +kernel
theorem dX6_readLocks_102 : decode cX6_readLocks 102 = .ok (.iload_n 3, 1) := by decide +kernel
theorem dX6_readLocks_103 : decode cX6_readLocks 103 = .ok (.ifCond .eq 16, 3) := by decide +kernel
theorem dX6_readLocks_106 : decode cX6_readLocks 106 = .ok (.iload_n 2, 1) := by decide +kernel
theorem dX6_readLocks_107 : decode cX6_readLocks 107 = .ok (.iconst 4, 1) := by decide +kernel
theorem dX6_readLocks_108 : decode cX6_readLocks 108 = .ok (.if_icmp .ne 11, 3) := by decide +kernel
theorem dX6_readLocks_111 : decode cX6_readLocks 111 = .ok (.aload_n 0, 1) := by decide +kernel
theorem dX6_readLocks_112 : decode cX6_readLocks 112 = .ok (.aload_n 0, 1) := by decide +kernel
theorem dX6_readLocks_113 : decode cX6_readLocks 113 = .ok (.getfield 74, 3) := by decide +kernel
theorem dX6_readLocks_116 : decode cX6_readLocks 116 = .ok (.invokevirtual 98, 3) := by decide +kernel
theorem dX6_readLocks_119 : decode cX6_readLocks 119 = .ok (.goto (-115), 3) := by decide +kernel
theorem dX6_readLocks_122 : decode cX6_readLocks 122 = .ok (.return_, 1) := by decide +kernel
theorem dX6_readCalls_0 : decode cX6_readCalls 0 = .ok (.aload_n 0, 1) := by decide +kernel
theorem dX6_readCalls_1 : decode cX6_readCalls 1 = .ok (.dup, 1) := by decide +kernel
theorem dX6_readCalls_2 : decode cX6_readCalls 2 = .ok (.getfield 74, 3) := by decide +kernel
theorem dX6_readCalls_5 : decode cX6_readCalls 5 = .ok (.iconst 1, 1) := by decide +kernel
theorem dX6_readCalls_6 : decode cX6_readCalls 6 = .ok (.iadd, 1) := by decide +kernel
theorem dX6_readCalls_7 : decode cX6_readCalls 7 = .ok (.putfield 74, 3) := by decide +kernel
theorem dX6_readCalls_10 : decode cX6_readCalls 10 = .ok (.aload_n 0, 1) := by decide +kernel
theorem dX6_readCalls_11 : decode cX6_readCalls 11 = .ok (.invokevirtual 80, 3) := by decide +kernel
theorem dX6_readCalls_14 : decode cX6_readCalls 14 = .ok (.bipush 97, 2) := by decide +kernel
theorem dX6_readCalls_16 : decode cX6_readCalls 16 = .ok (.bipush 122, 2) := by decide +kernel
theorem dX6_readCalls_18 : decode cX6_readCalls 18 = .ok (.invokestatic 84, 3) := by decide +kernel
theorem dX6_readCalls_21 : decode cX6_readCalls 21 = .ok (.ifCond .ne 11, 3) := by decide +kernel
theorem dX6_readCalls_24 : decode cX6_readCalls 24 = .ok (.aload_n 0, 1) := by decide +kernel
theorem dX6_readCalls_25 : decode cX6_readCalls 25 = .ok (.aload_n 0, 1) := by decide +kernel
theorem dX6_readCalls_26 : decode cX6_readCalls 26 = .ok (.getfield 74, 3) := by decide +kernel
theorem dX6_readCalls_29 : decode cX6_readCalls 29 = .ok (.invokevirtual 98, 3) := by decide +kernel
theorem dX6_readCalls_32 : decode cX6_readCalls 32 = .ok (.aload_n 0, 1) := by decide +kernel
theorem dX6_readCalls_33 : decode cX6_readCalls 33 = .ok (.getfield 88, 3) := by decide +kernel
theorem dX6_readCalls_36 : decode cX6_readCalls 36 = .ok (.iconst (-1), 1) := by decide +kernel
theorem dX6_readCalls_37 : decode cX6_readCalls 37 = .ok (.if_icmp .ne 72, 3) := by decide +kernel
theorem dX6_readCalls_40 : decode cX6_readCalls 40 = .ok (.aload_n 0, 1) := by decide +kernel
theorem dX6_readCalls_41 : decode cX6_readCalls 41 = .ok (.invokevirtual 80, 3) := by decide +kernel
theorem dX6_readCalls_44 : decode cX6_readCalls 44 = .ok (.bipush 97, 2) := by decide +kernel
theorem dX6_readCalls_46 : decode cX6_readCalls 46 = .ok (.bipush 122, 2) := by decide +kernel
theorem dX6_readCalls_48 : decode cX6_readCalls 48 = .ok (.invokestatic 84, 3) := by decide +kernel
theorem dX6_readCalls_51 : decode cX6_readCalls 51 = .ok (.ifCond .eq 58, 3) := by decide +kernel
theorem dX6_readCalls_54 : decode cX6_readCalls 54 = .ok (.aload_n 0, 1) := by decide +kernel
theorem dX6_readCalls_55 : decode cX6_readCalls 55 = .ok (.getfield 112, 3) := by decide +kernel
theorem dX6_readCalls_58 : decode cX6_readCalls 58 = .ok (.bipush 12, 2) := by decide +kernel
theorem dX6_readCalls_60 : decode cX6_readCalls 60 = .ok (.if_icmp .ne 12, 3) := by decide +kernel
theorem dX6_readCalls_63 : decode cX6_readCalls 63 = .ok (.aload_n 0, 1) := by decide +kernel
theorem dX6_readCalls_64 : decode cX6_readCalls 64 = .ok (.aload_n 0, 1) := by decide +kernel
theorem dX6_readCalls_65 : decode cX6_readCalls 65 = .ok (.getfield 74, 3) := by decide +kernel
theorem dX6_readCalls_68 : decode cX6_readCalls 68 = .ok (.invokevirtual 98, 3) := by decide +kernel
theorem dX6_readCalls_71 : decode cX6_readCalls 71 = .ok (.return_, 1) := by decide +kernel
theorem dX6_readCalls_72 : decode cX6_readCalls 72 = .ok (.aload_n 0, 1) := by decide +kernel
theorem dX6_readCalls_73 : decode cX6_readCalls 73 = .ok (.getfield 49, 3) := by decide +kernel
theorem dX6_readCalls_76 : decode cX6_readCalls 76 = .ok (.aload_n 0, 1) := by decide +kernel
theorem dX6_readCalls_77 : decode cX6_readCalls 77 = .ok (.getfield 112, 3) := by decide +kernel
theorem dX6_readCalls_80 : decode cX6_readCalls 80 = .ok (.aload_n 0, 1) := by decide +kernel
theorem dX6_readCalls_81 : decode cX6_readCalls 81 = .ok (.invokevirtual 80, 3) := by decide +kernel
theorem dX6_readCalls_84 : decode cX6_readCalls 84 = .ok (.i2b, 1) := by decide +kernel
theorem dX6_readCalls_85 : decode cX6_readCalls 85 = .ok (.bastore, 1) := by decide +kernel
theorem dX6_readCalls_86 : decode cX6_readCalls 86 = .ok (.aload_n 0, 1) := by decide +kernel
theorem dX6_readCalls_87 : decode cX6_readCalls 87 = .ok (.dup, 1) := by decide +kernel
theorem dX6_readCalls_88 : decode cX6_readCalls 88 = .ok (.getfield 112, 3) := by decide +kernel
theorem dX6_readCalls_91 : decode cX6_readCalls 91 = .ok (.iconst 1, 1) := by decide +kernel
theorem dX6_readCalls_92 : decode cX6_readCalls 92 = .ok (.iadd, 1) := by decide +kernel
theorem dX6_readCalls_93 : decode cX6_readCalls 93 = .ok (.putfield 112, 3) := by decide +kernel
theorem dX6_readCalls_96 : decode cX6_readCalls 96 = .ok (.aload_n 0, 1) := by decide +kernel
theorem dX6_readCalls_97 : decode cX6_readCalls 97 = .ok (.dup, 1) := by decide +kernel
theorem dX6_readCalls_98 : decode cX6_readCalls 98 = .ok (.getfield 74, 3) := by decide +kernel
theorem dX6_readCalls_101 : decode cX6_readCalls 101 = .ok (.iconst 1, 1) := by decide +kernel
theorem dX6_readCalls_102 : decode cX6_readCalls 102 = .ok (.iadd, 1) := by decide +kernel
theorem dX6_readCalls_103 : decode cX6_readCalls 103 = .ok (.putfield 74, 3) := by decide +kernel
theorem dX6_readCalls_106 : decode cX6_readCalls 106 = .ok (.goto (-74), 3) := by decide +kernel
theorem dX6_readCalls_109 : decode cX6_readCalls 109 = .ok (.return_, 1) := by decide +kernel
theorem dX6_stateOf_0 : decode cX6_stateOf 0 = .ok (.iload_n 0, 1) := by decide +kernel
theorem dX6_stateOf_1 : decode cX6_stateOf 1 = .ok (.bipush 82, 2) := by decide +kernel
theorem dX6_stateOf_3 : decode cX6_stateOf 3 = .ok (.if_icmp .ne 7, 3) := by decide +kernel
theorem dX6_stateOf_6 : decode cX6_stateOf 6 = .ok (.iconst 0, 1) := by decide +kernel
theorem dX6_stateOf_7 : decode cX6_stateOf 7 = .ok (.goto 34, 3) := by decide +kernel
theorem dX6_stateOf_10 : decode cX6_stateOf 10 = .ok (.iload_n 0, 1) := by decide +kernel
theorem dX6_stateOf_11 : decode cX6_stateOf 11 = .ok (.bipush 87, 2) := by decide +kernel
theorem dX6_stateOf_13 : decode cX6_stateOf 13 = .ok (.if_icmp .ne 7, 3) := by decide +kernel
theorem dX6_stateOf_16 : decode cX6_stateOf 16 = .ok (.iconst 1, 1) := by decide +kernel
theorem dX6_stateOf_17 : decode cX6_stateOf 17 = .ok (.goto 24, 3) := by decide +kernel
theorem dX6_stateOf_20 : decode cX6_stateOf 20 = .ok (.iload_n 0, 1) := by decide +kernel
theorem dX6_stateOf_21 : decode cX6_stateOf 21 = .ok (.bipush 83, 2) := by decide +kernel
theorem dX6_stateOf_23 : decode cX6_stateOf 23 = .ok (.if_icmp .ne 7, 3) := by decide +kernel
theorem dX6_stateOf_26 : decode cX6_stateOf 26 = .ok (.iconst 2, 1) := by decide +kernel
theorem dX6_stateOf_27 : decode cX6_stateOf 27 = .ok (.goto 14, 3) := by decide +kernel
theorem dX6_stateOf_30 : decode cX6_stateOf 30 = .ok (.iload_n 0, 1) := by decide +kernel
theorem dX6_stateOf_31 : decode cX6_stateOf 31 = .ok (.bipush 70, 2) := by decide +kernel
theorem dX6_stateOf_33 : decode cX6_stateOf 33 = .ok (.if_icmp .ne 7, 3) := by decide +kernel
theorem dX6_stateOf_36 : decode cX6_stateOf 36 = .ok (.iconst 3, 1) := by decide +kernel
theorem dX6_stateOf_37 : decode cX6_stateOf 37 = .ok (.goto 4, 3) := by decide +kernel
theorem dX6_stateOf_40 : decode cX6_stateOf 40 = .ok (.iconst (-1), 1) := by decide +kernel
theorem dX6_stateOf_41 : decode cX6_stateOf 41 = .ok (.ireturn, 1) := by decide +kernel
theorem dX6_readRow_0 : decode cX6_readRow 0 = .ok (.aload_n 0, 1) := by decide +kernel
theorem dX6_readRow_1 : decode cX6_readRow 1 = .ok (.dup, 1) := by decide +kernel
theorem dX6_readRow_2 : decode cX6_readRow 2 = .ok (.getfield 74, 3) := by decide +kernel
theorem dX6_readRow_5 : decode cX6_readRow 5 = .ok (.iconst 1, 1) := by decide +kernel
theorem dX6_readRow_6 : decode cX6_readRow 6 = .ok (.iadd, 1) := by decide +kernel
theorem dX6_readRow_7 : decode cX6_readRow 7 = .ok (.putfield 74, 3) := by decide +kernel
theorem dX6_readRow_10 : decode cX6_readRow 10 = .ok (.aload_n 0, 1) := by decide +kernel
theorem dX6_readRow_11 : decode cX6_readRow 11 = .ok (.iconst 0, 1) := by decide +kernel
theorem dX6_readRow_12 : decode cX6_readRow 12 = .ok (.putfield 109, 3) := by decide +kernel
theorem dX6_readRow_15 : decode cX6_readRow 15 = .ok (.aload_n 0, 1) := by decide +kernel
theorem dX6_readRow_16 : decode cX6_readRow 16 = .ok (.iconst (-1), 1) := by decide +kernel
theorem dX6_readRow_17 : decode cX6_readRow 17 = .ok (.putfield 115, 3) := by decide +kernel
theorem dX6_readRow_20 : decode cX6_readRow 20 = .ok (.aload_n 0, 1) := by decide +kernel
theorem dX6_readRow_21 : decode cX6_readRow 21 = .ok (.iconst 0, 1) := by decide +kernel
theorem dX6_readRow_22 : decode cX6_readRow 22 = .ok (.putfield 112, 3) := by decide +kernel
theorem dX6_readRow_25 : decode cX6_readRow 25 = .ok (.aload_n 0, 1) := by decide +kernel
theorem dX6_readRow_26 : decode cX6_readRow 26 = .ok (.aload_n 0, 1) := by decide +kernel
theorem dX6_readRow_27 : decode cX6_readRow 27 = .ok (.iconst 2, 1) := by decide +kernel
theorem dX6_readRow_28 : decode cX6_readRow 28 = .ok (.bipush 23, 2) := by decide +kernel
theorem dX6_readRow_30 : decode cX6_readRow 30 = .ok (.invokevirtual 101, 3) := by decide +kernel
theorem dX6_readRow_33 : decode cX6_readRow 33 = .ok (.putfield 118, 3) := by decide +kernel
theorem dX6_readRow_36 : decode cX6_readRow 36 = .ok (.aload_n 0, 1) := by decide +kernel
theorem dX6_readRow_37 : decode cX6_readRow 37 = .ok (.getfield 88, 3) := by decide +kernel
theorem dX6_readRow_40 : decode cX6_readRow 40 = .ok (.iconst (-1), 1) := by decide +kernel
theorem dX6_readRow_41 : decode cX6_readRow 41 = .ok (.if_icmp .ne 28, 3) := by decide +kernel
theorem dX6_readRow_44 : decode cX6_readRow 44 = .ok (.aload_n 0, 1) := by decide +kernel
theorem dX6_readRow_45 : decode cX6_readRow 45 = .ok (.getfield 27, 3) := by decide +kernel
theorem dX6_readRow_48 : decode cX6_readRow 48 = .ok (.bipush 24, 2) := by decide +kernel
theorem dX6_readRow_50 : decode cX6_readRow 50 = .ok (.iload_n 1, 1) := by decide +kernel
theorem dX6_readRow_51 : decode cX6_readRow 51 = .ok (.imul, 1) := by decide +kernel
theorem dX6_readRow_52 : decode cX6_readRow 52 = .ok (.aload_n 0, 1) := by decide +kernel
theorem dX6_readRow_53 : decode cX6_readRow 53 = .ok (.getfield 118, 3) := by decide +kernel
theorem dX6_readRow_56 : decode cX6_readRow 56 = .ok (.iadd, 1) := by decide +kernel
theorem dX6_readRow_57 : decode cX6_readRow 57 = .ok (.baload, 1) := by decide +kernel
theorem dX6_readRow_58 : decode cX6_readRow 58 = .ok (.ifCond .eq 11, 3) := by decide +kernel
theorem dX6_readRow_61 : decode cX6_readRow 61 = .ok (.aload_n 0, 1) := by decide +kernel
theorem dX6_readRow_62 : decode cX6_readRow 62 = .ok (.aload_n 0, 1) := by decide +kernel
theorem dX6_readRow_63 : decode cX6_readRow 63 = .ok (.getfield 91, 3) := by decide +kernel
theorem dX6_readRow_66 : decode cX6_readRow 66 = .ok (.invokevirtual 98, 3) := by decide +kernel
theorem dX6_readRow_69 : decode cX6_readRow 69 = .ok (.aload_n 0, 1) := by decide +kernel
theorem dX6_readRow_70 : decode cX6_readRow 70 = .ok (.aload_n 0, 1) := by decide +kernel
theorem dX6_readRow_71 : decode cX6_readRow 71 = .ok (.invokevirtual 80, 3) := by decide +kernel
theorem dX6_readRow_74 : decode cX6_readRow 74 = .ok (.invokestatic 121, 3) := by decide +kernel
theorem dX6_readRow_77 : decode cX6_readRow 77 = .ok (.putfield 124, 3) := by decide +kernel
theorem dX6_readRow_80 : decode cX6_readRow 80 = .ok (.aload_n 0, 1) := by decide +kernel
theorem dX6_readRow_81 : decode cX6_readRow 81 = .ok (.getfield 124, 3) := by decide +kernel
theorem dX6_readRow_84 : decode cX6_readRow 84 = .ok (.iconst (-1), 1) := by decide +kernel
theorem dX6_readRow_85 : decode cX6_readRow 85 = .ok (.if_icmp .ne 11, 3) := by decide +kernel
theorem dX6_readRow_88 : decode cX6_readRow 88 = .ok (.aload_n 0, 1) := by decide +kernel
theorem dX6_readRow_89 : decode cX6_readRow 89 = .ok (.aload_n 0, 1) := by decide +kernel
theorem dX6_readRow_90 : decode cX6_readRow 90 = .ok (.getfield 74, 3) := by decide +kernel
theorem dX6_readRow_93 : decode cX6_readRow 93 = .ok (.invokevirtual 98, 3) := by decide +kernel
theorem dX6_readRow_96 : decode cX6_readRow 96 = .ok (.aload_n 0, 1) := by decide +kernel
theorem dX6_readRow_97 : decode cX6_readRow 97 = .ok (.dup, 1) := by decide +kernel
theorem dX6_readRow_98 : decode cX6_readRow 98 = .ok (.getfield 74, 3) := by decide +kernel
theorem dX6_readRow_101 : decode cX6_readRow 101 = .ok (.iconst 1, 1) := by decide +kernel
theorem dX6_readRow_102 : decode cX6_readRow 102 = .ok (.iadd, 1) := by decide +kernel
theorem dX6_readRow_103 : decode cX6_readRow 103 = .ok (.putfield 74, 3) := by decide +kernel
theorem dX6_readRow_106 : decode cX6_readRow 106 = .ok (.aload_n 0, 1) := by decide +kernel
theorem dX6_readRow_107 : decode cX6_readRow 107 = .ok (.getfield 88, 3) := by decide +kernel
theorem dX6_readRow_110 : decode cX6_readRow 110 = .ok (.iconst (-1), 1) := by decide +kernel
theorem dX6_readRow_111 : decode cX6_readRow 111 = .ok (.if_icmp .ne 15, 3) := by decide +kernel
theorem dX6_readRow_114 : decode cX6_readRow 114 = .ok (.aload_n 0, 1) := by decide +kernel
theorem dX6_readRow_115 : decode cX6_readRow 115 = .ok (.aload_n 0, 1) := by decide +kernel
theorem dX6_readRow_116 : decode cX6_readRow 116 = .ok (.iconst 4, 1) := by decide +kernel
theorem dX6_readRow_117 : decode cX6_readRow 117 = .ok (.sipush 9999, 3) := by decide +kernel
theorem dX6_readRow_120 : decode cX6_readRow 120 = .ok (.invokevirtual 101, 3) := by decide +kernel
theorem dX6_readRow_123 : decode cX6_readRow 123 = .ok (.putfield 127, 3) := by decide +kernel
theorem dX6_readRow_126 : decode cX6_readRow 126 = .ok (.aload_n 0, 1) := by decide +kernel
theorem dX6_readRow_127 : decode cX6_readRow 127 = .ok (.getfield 88, 3) := by decide +kernel
theorem dX6_readRow_130 : decode cX6_readRow 130 = .ok (.iconst (-1), 1) := by decide +kernel
theorem dX6_readRow_131 : decode cX6_readRow 131 = .ok (.if_icmp .ne 17, 3) := by decide +kernel
theorem dX6_readRow_134 : decode cX6_readRow 134 = .ok (.aload_n 0, 1) := by decide +kernel
theorem dX6_readRow_135 : decode cX6_readRow 135 = .ok (.invokevirtual 80, 3) := by decide +kernel
theorem dX6_readRow_138 : decode cX6_readRow 138 = .ok (.bipush 104, 2) := by decide +kernel
theorem dX6_readRow_140 : decode cX6_readRow 140 = .ok (.if_icmp .ne 8, 3) := by decide +kernel
theorem dX6_readRow_143 : decode cX6_readRow 143 = .ok (.aload_n 0, 1) := by decide +kernel
theorem dX6_readRow_144 : decode cX6_readRow 144 = .ok (.iload_n 1, 1) := by decide +kernel
theorem dX6_readRow_145 : decode cX6_readRow 145 = .ok (.invokevirtual 130, 3) := by decide +kernel
theorem dX6_readRow_148 : decode cX6_readRow 148 = .ok (.aload_n 0, 1) := by decide +kernel
theorem dX6_readRow_149 : decode cX6_readRow 149 = .ok (.getfield 88, 3) := by decide +kernel
theorem dX6_readRow_152 : decode cX6_readRow 152 = .ok (.iconst (-1), 1) := by decide +kernel
theorem dX6_readRow_153 : decode cX6_readRow 153 = .ok (.if_icmp .eq 4, 3) := by decide +kernel
theorem dX6_readRow_156 : decode cX6_readRow 156 = .ok (.return_, 1) := by decide +kernel
theorem dX6_readRow_157 : decode cX6_readRow 157 = .ok (.aload_n 0, 1) := by decide +kernel
theorem dX6_readRow_158 : decode cX6_readRow 158 = .ok (.getfield 124, 3) := by decide +kernel
theorem dX6_readRow_161 : decode cX6_readRow 161 = .ok (.iconst 1, 1) := by decide +kernel
theorem dX6_readRow_162 : decode cX6_readRow 162 = .ok (.if_icmp .eq 11, 3) := by decide +kernel
theorem dX6_readRow_165 : decode cX6_readRow 165 = .ok (.aload_n 0, 1) := by decide +kernel
theorem dX6_readRow_166 : decode cX6_readRow 166 = .ok (.getfield 124, 3) := by decide +kernel
theorem dX6_readRow_169 : decode cX6_readRow 169 = .ok (.iconst 2, 1) := by decide +kernel
theorem dX6_readRow_170 : decode cX6_readRow 170 = .ok (.if_icmp .ne 7, 3) := by decide +kernel
theorem dX6_readRow_173 : decode cX6_readRow 173 = .ok (.iconst 1, 1) := by decide +kernel
theorem dX6_readRow_174 : decode cX6_readRow 174 = .ok (.goto 4, 3) := by decide +kernel
theorem dX6_readRow_177 : decode cX6_readRow 177 = .ok (.iconst 0, 1) := by decide +kernel
theorem dX6_readRow_178 : decode cX6_readRow 178 = .ok (.istore_n 2, 1) := by decide +kernel
theorem dX6_readRow_179 : decode cX6_readRow 179 = .ok (.iload_n 2, 1) := by decide +kernel
theorem dX6_readRow_180 : decode cX6_readRow 180 = .ok (.aload_n 0, 1) := by decide +kernel
theorem dX6_readRow_181 : decode cX6_readRow 181 = .ok (.invokevirtual 80, 3) := by decide +kernel
theorem dX6_readRow_184 : decode cX6_readRow 184 = .ok (.bipush 119, 2) := by decide +kernel
theorem dX6_readRow_186 : decode cX6_readRow 186 = .ok (.if_icmp .ne 7, 3) := by decide +kernel
theorem dX6_readRow_189 : decode cX6_readRow 189 = .ok (.iconst 1, 1) := by decide +kernel
theorem dX6_readRow_190 : decode cX6_readRow 190 = .ok (.goto 4, 3) := by decide +kernel
theorem dX6_readRow_193 : decode cX6_readRow 193 = .ok (.iconst 0, 1) := by decide +kernel
theorem dX6_readRow_194 : decode cX6_readRow 194 = .ok (.if_icmp .eq 24, 3) := by decide +kernel
theorem dX6_readRow_197 : decode cX6_readRow 197 = .ok (.iload_n 2, 1) := by decide +kernel
theorem dX6_readRow_198 : decode cX6_readRow 198 = .ok (.ifCond .ne 12, 3) := by decide +kernel
theorem dX6_readRow_201 : decode cX6_readRow 201 = .ok (.aload_n 0, 1) := by decide +kernel
theorem dX6_readRow_202 : decode cX6_readRow 202 = .ok (.invokevirtual 80, 3) := by decide +kernel
theorem dX6_readRow_205 : decode cX6_readRow 205 = .ok (.bipush 119, 2) := by decide +kernel
theorem dX6_readRow_207 : decode cX6_readRow 207 = .ok (.if_icmp .ne 11, 3) := by decide +kernel
theorem dX6_readRow_210 : decode cX6_readRow 210 = .ok (.aload_n 0, 1) := by decide +kernel
theorem dX6_readRow_211 : decode cX6_readRow 211 = .ok (.aload_n 0, 1) := by decide +kernel
theorem dX6_readRow_212 : decode cX6_readRow 212 = .ok (.getfield 74, 3) := by decide +kernel
theorem dX6_readRow_215 : decode cX6_readRow 215 = .ok (.invokevirtual 98, 3) := by decide +kernel
theorem dX6_readRow_218 : decode cX6_readRow 218 = .ok (.aload_n 0, 1) := by decide +kernel
theorem dX6_readRow_219 : decode cX6_readRow 219 = .ok (.getfield 88, 3) := by decide +kernel
theorem dX6_readRow_222 : decode cX6_readRow 222 = .ok (.iconst (-1), 1) := by decide +kernel
theorem dX6_readRow_223 : decode cX6_readRow 223 = .ok (.if_icmp .ne 28, 3) := by decide +kernel
theorem dX6_readRow_226 : decode cX6_readRow 226 = .ok (.iload_n 2, 1) := by decide +kernel
theorem dX6_readRow_227 : decode cX6_readRow 227 = .ok (.ifCond .eq 24, 3) := by decide +kernel
theorem dX6_readRow_230 : decode cX6_readRow 230 = .ok (.aload_n 0, 1) := by decide +kernel
theorem dX6_readRow_231 : decode cX6_readRow 231 = .ok (.dup, 1) := by decide +kernel
theorem dX6_readRow_232 : decode cX6_readRow 232 = .ok (.getfield 74, 3) := by decide +kernel
theorem dX6_readRow_235 : decode cX6_readRow 235 = .ok (.iconst 1, 1) := by decide +kernel
theorem dX6_readRow_236 : decode cX6_readRow 236 = .ok (.iadd, 1) := by decide +kernel
theorem dX6_readRow_237 : decode cX6_readRow 237 = .ok (.putfield 74, 3) := by decide +kernel
theorem dX6_readRow_240 : decode cX6_readRow 240 = .ok (.aload_n 0, 1) := by decide +kernel
theorem dX6_readRow_241 : decode cX6_readRow 241 = .ok (.aload_n 0, 1) := by decide +kernel
theorem dX6_readRow_242 : decode cX6_readRow 242 = .ok (.iconst 2, 1) := by decide +kernel
theorem dX6_readRow_243 : decode cX6_readRow 243 = .ok (.bipush 15, 2) := by decide +kernel
theorem dX6_readRow_245 : decode cX6_readRow 245 = .ok (.invokevirtual 101, 3) := by decide +kernel
theorem dX6_readRow_248 : decode cX6_readRow 248 = .ok (.putfield 115, 3) := by decide +kernel
theorem dX6_readRow_251 : decode cX6_readRow 251 = .ok (.aload_n 0, 1) := by decide +kernel
theorem dX6_readRow_252 : decode cX6_readRow 252 = .ok (.getfield 88, 3) := by decide +kernel
theorem dX6_readRow_255 : decode cX6_readRow 255 = .ok (.iconst (-1), 1) := by decide +kernel
theorem dX6_readRow_256 : decode cX6_readRow 256 = .ok (.if_icmp .ne 16, 3) := by decide +kernel
theorem dX6_readRow_259 : decode cX6_readRow 259 = .ok (.aload_n 0, 1) := by decide +kernel
theorem dX6_readRow_260 : decode cX6_readRow 260 = .ok (.invokevirtual 80, 3) := by decide +kernel
theorem dX6_readRow_263 : decode cX6_readRow 263 = .ok (.bipush 99, 2) := by decide +kernel
theorem dX6_readRow_265 : decode cX6_readRow 265 = .ok (.if_icmp .ne 7, 3) := by decide +kernel
theorem dX6_readRow_268 : decode cX6_readRow 268 = .ok (.aload_n 0, 1) := by decide +kernel
theorem dX6_readRow_269 : decode cX6_readRow 269 = .ok (.invokevirtual 133, 3) := by decide +kernel
theorem dX6_readRow_272 : decode cX6_readRow 272 = .ok (.aload_n 0, 1) := by decide +kernel
theorem dX6_readRow_273 : decode cX6_readRow 273 = .ok (.getfield 88, 3) := by decide +kernel
theorem dX6_readRow_276 : decode cX6_readRow 276 = .ok (.iconst (-1), 1) := by decide +kernel
theorem dX6_readRow_277 : decode cX6_readRow 277 = .ok (.if_icmp .ne 31, 3) := by decide +kernel
theorem dX6_readRow_280 : decode cX6_readRow 280 = .ok (.aload_n 0, 1) := by decide +kernel
theorem dX6_readRow_281 : decode cX6_readRow 281 = .ok (.getfield 74, 3) := by decide +kernel
theorem dX6_readRow_284 : decode cX6_readRow 284 = .ok (.aload_n 0, 1) := by decide +kernel
theorem dX6_readRow_285 : decode cX6_readRow 285 = .ok (.getfield 77, 3) := by decide +kernel
theorem dX6_readRow_288 : decode cX6_readRow 288 = .ok (.if_icmp .ge 20, 3) := by decide +kernel
theorem dX6_readRow_291 : decode cX6_readRow 291 = .ok (.aload_n 0, 1) := by decide +kernel
theorem dX6_readRow_292 : decode cX6_readRow 292 = .ok (.invokevirtual 80, 3) := by decide +kernel
theorem dX6_readRow_295 : decode cX6_readRow 295 = .ok (.bipush 59, 2) := by decide +kernel
theorem dX6_readRow_297 : decode cX6_readRow 297 = .ok (.if_icmp .eq 11, 3) := by decide +kernel
theorem dX6_readRow_300 : decode cX6_readRow 300 = .ok (.aload_n 0, 1) := by decide +kernel
theorem dX6_readRow_301 : decode cX6_readRow 301 = .ok (.aload_n 0, 1) := by decide +kernel
theorem dX6_readRow_302 : decode cX6_readRow 302 = .ok (.getfield 74, 3) := by decide +kernel
theorem dX6_readRow_305 : decode cX6_readRow 305 = .ok (.invokevirtual 98, 3) := by decide +kernel
theorem dX6_readRow_308 : decode cX6_readRow 308 = .ok (.return_, 1) := by decide +kernel
theorem dX6_stands_0 : decode cX6_stands 0 = .ok (.bipush 24, 2) := by decide +kernel
theorem dX6_stands_2 : decode cX6_stands 2 = .ok (.iload_n 1, 1) := by decide +kernel
theorem dX6_stands_3 : decode cX6_stands 3 = .ok (.imul, 1) := by decide +kernel
theorem dX6_stands_4 : decode cX6_stands 4 = .ok (.aload_n 0, 1) := by decide +kernel
theorem dX6_stands_5 : decode cX6_stands 5 = .ok (.getfield 118, 3) := by decide +kernel
theorem dX6_stands_8 : decode cX6_stands 8 = .ok (.iadd, 1) := by decide +kernel
theorem dX6_stands_9 : decode cX6_stands 9 = .ok (.istore_n 2, 1) := by decide +kernel
theorem dX6_stands_10 : decode cX6_stands 10 = .ok (.aload_n 0, 1) := by decide +kernel
theorem dX6_stands_11 : decode cX6_stands 11 = .ok (.getfield 27, 3) := by decide +kernel
theorem dX6_stands_14 : decode cX6_stands 14 = .ok (.iload_n 2, 1) := by decide +kernel
theorem dX6_stands_15 : decode cX6_stands 15 = .ok (.iconst 1, 1) := by decide +kernel
theorem dX6_stands_16 : decode cX6_stands 16 = .ok (.bastore, 1) := by decide +kernel
theorem dX6_stands_17 : decode cX6_stands 17 = .ok (.aload_n 0, 1) := by decide +kernel
theorem dX6_stands_18 : decode cX6_stands 18 = .ok (.getfield 31, 3) := by decide +kernel
theorem dX6_stands_21 : decode cX6_stands 21 = .ok (.iload_n 2, 1) := by decide +kernel
theorem dX6_stands_22 : decode cX6_stands 22 = .ok (.aload_n 0, 1) := by decide +kernel
theorem dX6_stands_23 : decode cX6_stands 23 = .ok (.getfield 124, 3) := by decide +kernel
theorem dX6_stands_26 : decode cX6_stands 26 = .ok (.iastore, 1) := by decide +kernel
theorem dX6_stands_27 : decode cX6_stands 27 = .ok (.aload_n 0, 1) := by decide +kernel
theorem dX6_stands_28 : decode cX6_stands 28 = .ok (.getfield 34, 3) := by decide +kernel
theorem dX6_stands_31 : decode cX6_stands 31 = .ok (.iload_n 2, 1) := by decide +kernel
theorem dX6_stands_32 : decode cX6_stands 32 = .ok (.aload_n 0, 1) := by decide +kernel
theorem dX6_stands_33 : decode cX6_stands 33 = .ok (.getfield 127, 3) := by decide +kernel
theorem dX6_stands_36 : decode cX6_stands 36 = .ok (.iastore, 1) := by decide +kernel
theorem dX6_stands_37 : decode cX6_stands 37 = .ok (.aload_n 0, 1) := by decide +kernel
theorem dX6_stands_38 : decode cX6_stands 38 = .ok (.getfield 37, 3) := by decide +kernel
theorem dX6_stands_41 : decode cX6_stands 41 = .ok (.iload_n 2, 1) := by decide +kernel
theorem dX6_stands_42 : decode cX6_stands 42 = .ok (.aload_n 0, 1) := by decide +kernel
theorem dX6_stands_43 : decode cX6_stands 43 = .ok (.getfield 109, 3) := by decide +kernel
theorem dX6_stands_46 : decode cX6_stands 46 = .ok (.iastore, 1) := by decide +kernel
theorem dX6_stands_47 : decode cX6_stands 47 = .ok (.aload_n 0, 1) := by decide +kernel
theorem dX6_stands_48 : decode cX6_stands 48 = .ok (.getfield 40, 3) := by decide +kernel
theorem dX6_stands_51 : decode cX6_stands 51 = .ok (.iload_n 2, 1) := by decide +kernel
theorem dX6_stands_52 : decode cX6_stands 52 = .ok (.aload_n 0, 1) := by decide +kernel
theorem dX6_stands_53 : decode cX6_stands 53 = .ok (.getfield 115, 3) := by decide +kernel
theorem dX6_stands_56 : decode cX6_stands 56 = .ok (.iastore, 1) := by decide +kernel
theorem dX6_stands_57 : decode cX6_stands 57 = .ok (.aload_n 0, 1) := by decide +kernel
theorem dX6_stands_58 : decode cX6_stands 58 = .ok (.getfield 43, 3) := by decide +kernel
theorem dX6_stands_61 : decode cX6_stands 61 = .ok (.iload_n 2, 1) := by decide +kernel
theorem dX6_stands_62 : decode cX6_stands 62 = .ok (.aload_n 0, 1) := by decide +kernel
theorem dX6_stands_63 : decode cX6_stands 63 = .ok (.getfield 112, 3) := by decide +kernel
theorem dX6_stands_66 : decode cX6_stands 66 = .ok (.iastore, 1) := by decide +kernel
theorem dX6_stands_67 : decode cX6_stands 67 = .ok (.iconst 0, 1) := by decide +kernel
theorem dX6_stands_68 : decode cX6_stands 68 = .ok (.istore_n 3, 1) := by decide +kernel
theorem dX6_stands_69 : decode cX6_stands 69 = .ok (.iload_n 3, 1) := by decide +kernel
theorem dX6_stands_70 : decode cX6_stands 70 = .ok (.aload_n 0, 1) := by decide +kernel
theorem dX6_stands_71 : decode cX6_stands 71 = .ok (.getfield 112, 3) := by decide +kernel
theorem dX6_stands_74 : decode cX6_stands 74 = .ok (.if_icmp .ge 26, 3) := by decide +kernel
theorem dX6_stands_77 : decode cX6_stands 77 = .ok (.aload_n 0, 1) := by decide +kernel
theorem dX6_stands_78 : decode cX6_stands 78 = .ok (.getfield 46, 3) := by decide +kernel
theorem dX6_stands_81 : decode cX6_stands 81 = .ok (.bipush 12, 2) := by decide +kernel
theorem dX6_stands_83 : decode cX6_stands 83 = .ok (.iload_n 2, 1) := by decide +kernel
theorem dX6_stands_84 : decode cX6_stands 84 = .ok (.imul, 1) := by decide +kernel
theorem dX6_stands_85 : decode cX6_stands 85 = .ok (.iload_n 3, 1) := by decide +kernel
theorem dX6_stands_86 : decode cX6_stands 86 = .ok (.iadd, 1) := by decide +kernel
theorem dX6_stands_87 : decode cX6_stands 87 = .ok (.aload_n 0, 1) := by decide +kernel
theorem dX6_stands_88 : decode cX6_stands 88 = .ok (.getfield 49, 3) := by decide +kernel
theorem dX6_stands_91 : decode cX6_stands 91 = .ok (.iload_n 3, 1) := by decide +kernel
theorem dX6_stands_92 : decode cX6_stands 92 = .ok (.baload, 1) := by decide +kernel
theorem dX6_stands_93 : decode cX6_stands 93 = .ok (.bastore, 1) := by decide +kernel
theorem dX6_stands_94 : decode cX6_stands 94 = .ok (.iinc 3 1, 3) := by decide +kernel
theorem dX6_stands_97 : decode cX6_stands 97 = .ok (.goto (-28), 3) := by decide +kernel
theorem dX6_stands_100 : decode cX6_stands 100 = .ok (.return_, 1) := by decide +kernel
theorem dX6_picture_0 : decode cX6_picture 0 = .ok (.aload_n 0, 1) := by decide +kernel
theorem dX6_picture_1 : decode cX6_picture 1 = .ok (.getfield 136, 3) := by decide +kernel
theorem dX6_picture_4 : decode cX6_picture 4 = .ok (.bipush 8, 2) := by decide +kernel
theorem dX6_picture_6 : decode cX6_picture 6 = .ok (.if_icmp .eq 15, 3) := by decide +kernel
theorem dX6_picture_9 : decode cX6_picture 9 = .ok (.iload_n 1, 1) := by decide +kernel
theorem dX6_picture_10 : decode cX6_picture 10 = .ok (.ifCond .lt 11, 3) := by decide +kernel
theorem dX6_picture_13 : decode cX6_picture 13 = .ok (.iload_n 1, 1) := by decide +kernel
theorem dX6_picture_14 : decode cX6_picture 14 = .ok (.aload_n 0, 1) := by decide +kernel
theorem dX6_picture_15 : decode cX6_picture 15 = .ok (.getfield 67, 3) := by decide +kernel
theorem dX6_picture_18 : decode cX6_picture 18 = .ok (.if_icmp .le 5, 3) := by decide +kernel
theorem dX6_picture_21 : decode cX6_picture 21 = .ok (.iconst (-1), 1) := by decide +kernel
theorem dX6_picture_22 : decode cX6_picture 22 = .ok (.ireturn, 1) := by decide +kernel
theorem dX6_picture_23 : decode cX6_picture 23 = .ok (.aload_n 0, 1) := by decide +kernel
theorem dX6_picture_24 : decode cX6_picture 24 = .ok (.iconst 0, 1) := by decide +kernel
theorem dX6_picture_25 : decode cX6_picture 25 = .ok (.putfield 67, 3) := by decide +kernel
theorem dX6_picture_28 : decode cX6_picture 28 = .ok (.aload_n 0, 1) := by decide +kernel
theorem dX6_picture_29 : decode cX6_picture 29 = .ok (.iload_n 1, 1) := by decide +kernel
theorem dX6_picture_30 : decode cX6_picture 30 = .ok (.putfield 77, 3) := by decide +kernel
theorem dX6_picture_33 : decode cX6_picture 33 = .ok (.aload_n 0, 1) := by decide +kernel
theorem dX6_picture_34 : decode cX6_picture 34 = .ok (.iconst 0, 1) := by decide +kernel
theorem dX6_picture_35 : decode cX6_picture 35 = .ok (.putfield 74, 3) := by decide +kernel
theorem dX6_picture_38 : decode cX6_picture 38 = .ok (.aload_n 0, 1) := by decide +kernel
theorem dX6_picture_39 : decode cX6_picture 39 = .ok (.iconst (-1), 1) := by decide +kernel
theorem dX6_picture_40 : decode cX6_picture 40 = .ok (.putfield 88, 3) := by decide +kernel
theorem dX6_picture_43 : decode cX6_picture 43 = .ok (.aload_n 0, 1) := by decide +kernel
theorem dX6_picture_44 : decode cX6_picture 44 = .ok (.getfield 136, 3) := by decide +kernel
theorem dX6_picture_47 : decode cX6_picture 47 = .ok (.istore_n 2, 1) := by decide +kernel
theorem dX6_picture_48 : decode cX6_picture 48 = .ok (.aload_n 0, 1) := by decide +kernel
theorem dX6_picture_49 : decode cX6_picture 49 = .ok (.invokevirtual 80, 3) := by decide +kernel
theorem dX6_picture_52 : decode cX6_picture 52 = .ok (.bipush 116, 2) := by decide +kernel
theorem dX6_picture_54 : decode cX6_picture 54 = .ok (.if_icmp .eq 6, 3) := by decide +kernel
theorem dX6_picture_57 : decode cX6_picture 57 = .ok (.bipush (-2), 2) := by decide +kernel
theorem dX6_picture_59 : decode cX6_picture 59 = .ok (.ireturn, 1) := by decide +kernel
theorem dX6_picture_60 : decode cX6_picture 60 = .ok (.aload_n 0, 1) := by decide +kernel
theorem dX6_picture_61 : decode cX6_picture 61 = .ok (.dup, 1) := by decide +kernel
theorem dX6_picture_62 : decode cX6_picture 62 = .ok (.getfield 74, 3) := by decide +kernel
theorem dX6_picture_65 : decode cX6_picture 65 = .ok (.iconst 1, 1) := by decide +kernel
theorem dX6_picture_66 : decode cX6_picture 66 = .ok (.iadd, 1) := by decide +kernel
theorem dX6_picture_67 : decode cX6_picture 67 = .ok (.putfield 74, 3) := by decide +kernel
theorem dX6_picture_70 : decode cX6_picture 70 = .ok (.aload_n 0, 1) := by decide +kernel
theorem dX6_picture_71 : decode cX6_picture 71 = .ok (.getfield 20, 3) := by decide +kernel
theorem dX6_picture_74 : decode cX6_picture 74 = .ok (.iload_n 2, 1) := by decide +kernel
theorem dX6_picture_75 : decode cX6_picture 75 = .ok (.aload_n 0, 1) := by decide +kernel
theorem dX6_picture_76 : decode cX6_picture 76 = .ok (.iconst 4, 1) := by decide +kernel
theorem dX6_picture_77 : decode cX6_picture 77 = .ok (.sipush 9999, 3) := by decide +kernel
theorem dX6_picture_80 : decode cX6_picture 80 = .ok (.invokevirtual 101, 3) := by decide +kernel
theorem dX6_picture_83 : decode cX6_picture 83 = .ok (.iastore, 1) := by decide +kernel
theorem dX6_picture_84 : decode cX6_picture 84 = .ok (.aload_n 0, 1) := by decide +kernel
theorem dX6_picture_85 : decode cX6_picture 85 = .ok (.getfield 88, 3) := by decide +kernel
theorem dX6_picture_88 : decode cX6_picture 88 = .ok (.iconst (-1), 1) := by decide +kernel
theorem dX6_picture_89 : decode cX6_picture 89 = .ok (.if_icmp .ne 23, 3) := by decide +kernel
theorem dX6_picture_92 : decode cX6_picture 92 = .ok (.aload_n 0, 1) := by decide +kernel
theorem dX6_picture_93 : decode cX6_picture 93 = .ok (.getfield 74, 3) := by decide +kernel
theorem dX6_picture_96 : decode cX6_picture 96 = .ok (.aload_n 0, 1) := by decide +kernel
theorem dX6_picture_97 : decode cX6_picture 97 = .ok (.getfield 77, 3) := by decide +kernel
theorem dX6_picture_100 : decode cX6_picture 100 = .ok (.if_icmp .ge 15, 3) := by decide +kernel
theorem dX6_picture_103 : decode cX6_picture 103 = .ok (.aload_n 0, 1) := by decide +kernel
theorem dX6_picture_104 : decode cX6_picture 104 = .ok (.invokevirtual 80, 3) := by decide +kernel
theorem dX6_picture_107 : decode cX6_picture 107 = .ok (.bipush 59, 2) := by decide +kernel
theorem dX6_picture_109 : decode cX6_picture 109 = .ok (.if_icmp .eq 6, 3) := by decide +kernel
theorem dX6_picture_112 : decode cX6_picture 112 = .ok (.bipush (-2), 2) := by decide +kernel
theorem dX6_picture_114 : decode cX6_picture 114 = .ok (.ireturn, 1) := by decide +kernel
theorem dX6_picture_115 : decode cX6_picture 115 = .ok (.iconst 0, 1) := by decide +kernel
theorem dX6_picture_116 : decode cX6_picture 116 = .ok (.istore_n 3, 1) := by decide +kernel
theorem dX6_picture_117 : decode cX6_picture 117 = .ok (.iload_n 3, 1) := by decide +kernel
theorem dX6_picture_118 : decode cX6_picture 118 = .ok (.iload_n 2, 1) := by decide +kernel
theorem dX6_picture_119 : decode cX6_picture 119 = .ok (.if_icmp .ge 27, 3) := by decide +kernel
theorem dX6_picture_122 : decode cX6_picture 122 = .ok (.aload_n 0, 1) := by decide +kernel
theorem dX6_picture_123 : decode cX6_picture 123 = .ok (.getfield 20, 3) := by decide +kernel
theorem dX6_picture_126 : decode cX6_picture 126 = .ok (.iload_n 3, 1) := by decide +kernel
theorem dX6_picture_127 : decode cX6_picture 127 = .ok (.iaload, 1) := by decide +kernel
theorem dX6_picture_128 : decode cX6_picture 128 = .ok (.aload_n 0, 1) := by decide +kernel
theorem dX6_picture_129 : decode cX6_picture 129 = .ok (.getfield 20, 3) := by decide +kernel
theorem dX6_picture_132 : decode cX6_picture 132 = .ok (.iload_n 2, 1) := by decide +kernel
theorem dX6_picture_133 : decode cX6_picture 133 = .ok (.iaload, 1) := by decide +kernel
theorem dX6_picture_134 : decode cX6_picture 134 = .ok (.if_icmp .ne 6, 3) := by decide +kernel
theorem dX6_picture_137 : decode cX6_picture 137 = .ok (.bipush (-2), 2) := by decide +kernel
theorem dX6_picture_139 : decode cX6_picture 139 = .ok (.ireturn, 1) := by decide +kernel
theorem dX6_picture_140 : decode cX6_picture 140 = .ok (.iinc 3 1, 3) := by decide +kernel
theorem dX6_picture_143 : decode cX6_picture 143 = .ok (.goto (-26), 3) := by decide +kernel
theorem dX6_picture_146 : decode cX6_picture 146 = .ok (.iconst 0, 1) := by decide +kernel
theorem dX6_picture_147 : decode cX6_picture 147 = .ok (.istore_n 3, 1) := by decide +kernel
theorem dX6_picture_148 : decode cX6_picture 148 = .ok (.iload_n 3, 1) := by decide +kernel
theorem dX6_picture_149 : decode cX6_picture 149 = .ok (.bipush 24, 2) := by decide +kernel
theorem dX6_picture_151 : decode cX6_picture 151 = .ok (.if_icmp .ge 21, 3) := by decide +kernel
theorem dX6_picture_154 : decode cX6_picture 154 = .ok (.aload_n 0, 1) := by decide +kernel
theorem dX6_picture_155 : decode cX6_picture 155 = .ok (.getfield 27, 3) := by decide +kernel
theorem dX6_picture_158 : decode cX6_picture 158 = .ok (.bipush 24, 2) := by decide +kernel
theorem dX6_picture_160 : decode cX6_picture 160 = .ok (.iload_n 2, 1) := by decide +kernel
theorem dX6_picture_161 : decode cX6_picture 161 = .ok (.imul, 1) := by decide +kernel
theorem dX6_picture_162 : decode cX6_picture 162 = .ok (.iload_n 3, 1) := by decide +kernel
theorem dX6_picture_163 : decode cX6_picture 163 = .ok (.iadd, 1) := by decide +kernel
theorem dX6_picture_164 : decode cX6_picture 164 = .ok (.iconst 0, 1) := by decide +kernel
theorem dX6_picture_165 : decode cX6_picture 165 = .ok (.bastore, 1) := by decide +kernel
theorem dX6_picture_166 : decode cX6_picture 166 = .ok (.iinc 3 1, 3) := by decide +kernel
theorem dX6_picture_169 : decode cX6_picture 169 = .ok (.goto (-21), 3) := by decide +kernel
theorem dX6_picture_172 : decode cX6_picture 172 = .ok (.aload_n 0, 1) := by decide +kernel
theorem dX6_picture_173 : decode cX6_picture 173 = .ok (.getfield 88, 3) := by decide +kernel
theorem dX6_picture_176 : decode cX6_picture 176 = .ok (.iconst (-1), 1) := by decide +kernel
theorem dX6_picture_177 : decode cX6_picture 177 = .ok (.if_icmp .ne 35, 3) := by decide +kernel
theorem dX6_picture_180 : decode cX6_picture 180 = .ok (.aload_n 0, 1) := by decide +kernel
theorem dX6_picture_181 : decode cX6_picture 181 = .ok (.getfield 74, 3) := by decide +kernel
theorem dX6_picture_184 : decode cX6_picture 184 = .ok (.aload_n 0, 1) := by decide +kernel
theorem dX6_picture_185 : decode cX6_picture 185 = .ok (.getfield 77, 3) := by decide +kernel
theorem dX6_picture_188 : decode cX6_picture 188 = .ok (.if_icmp .ge 24, 3) := by decide +kernel
theorem dX6_picture_191 : decode cX6_picture 191 = .ok (.aload_n 0, 1) := by decide +kernel
theorem dX6_picture_192 : decode cX6_picture 192 = .ok (.iload_n 2, 1) := by decide +kernel
theorem dX6_picture_193 : decode cX6_picture 193 = .ok (.invokevirtual 139, 3) := by decide +kernel
theorem dX6_picture_196 : decode cX6_picture 196 = .ok (.aload_n 0, 1) := by decide +kernel
theorem dX6_picture_197 : decode cX6_picture 197 = .ok (.getfield 88, 3) := by decide +kernel
theorem dX6_picture_200 : decode cX6_picture 200 = .ok (.iconst (-1), 1) := by decide +kernel
theorem dX6_picture_201 : decode cX6_picture 201 = .ok (.if_icmp .ne (-29), 3) := by decide +kernel
theorem dX6_picture_204 : decode cX6_picture 204 = .ok (.aload_n 0, 1) := by decide +kernel
theorem dX6_picture_205 : decode cX6_picture 205 = .ok (.iload_n 2, 1) := by decide +kernel
theorem dX6_picture_206 : decode cX6_picture 206 = .ok (.invokevirtual 142, 3) := by decide +kernel
theorem dX6_picture_209 : decode cX6_picture 209 = .ok (.goto (-37), 3) := by decide +kernel
theorem dX6_picture_212 : decode cX6_picture 212 = .ok (.aload_n 0, 1) := by decide +kernel
theorem dX6_picture_213 : decode cX6_picture 213 = .ok (.getfield 24, 3) := by decide +kernel
theorem dX6_picture_216 : decode cX6_picture 216 = .ok (.iload_n 2, 1) := by decide +kernel
theorem dX6_picture_217 : decode cX6_picture 217 = .ok (.aload_n 0, 1) := by decide +kernel
theorem dX6_picture_218 : decode cX6_picture 218 = .ok (.getfield 88, 3) := by decide +kernel
theorem dX6_picture_221 : decode cX6_picture 221 = .ok (.iastore, 1) := by decide +kernel
theorem dX6_picture_222 : decode cX6_picture 222 = .ok (.aload_n 0, 1) := by decide +kernel
theorem dX6_picture_223 : decode cX6_picture 223 = .ok (.dup, 1) := by decide +kernel
theorem dX6_picture_224 : decode cX6_picture 224 = .ok (.getfield 136, 3) := by decide +kernel
theorem dX6_picture_227 : decode cX6_picture 227 = .ok (.iconst 1, 1) := by decide +kernel
theorem dX6_picture_228 : decode cX6_picture 228 = .ok (.iadd, 1) := by decide +kernel
theorem dX6_picture_229 : decode cX6_picture 229 = .ok (.putfield 136, 3) := by decide +kernel
theorem dX6_picture_232 : decode cX6_picture 232 = .ok (.iload_n 2, 1) := by decide +kernel
theorem dX6_picture_233 : decode cX6_picture 233 = .ok (.ireturn, 1) := by decide +kernel
theorem dX6_isPicture_0 : decode cX6_isPicture 0 = .ok (.iload_n 1, 1) := by decide +kernel
theorem dX6_isPicture_1 : decode cX6_isPicture 1 = .ok (.iconst 0, 1) := by decide +kernel
theorem dX6_isPicture_2 : decode cX6_isPicture 2 = .ok (.aload_n 0, 1) := by decide +kernel
theorem dX6_isPicture_3 : decode cX6_isPicture 3 = .ok (.getfield 136, 3) := by decide +kernel
theorem dX6_isPicture_6 : decode cX6_isPicture 6 = .ok (.iconst 1, 1) := by decide +kernel
theorem dX6_isPicture_7 : decode cX6_isPicture 7 = .ok (.isub, 1) := by decide +kernel
theorem dX6_isPicture_8 : decode cX6_isPicture 8 = .ok (.invokestatic 84, 3) := by decide +kernel
theorem dX6_isPicture_11 : decode cX6_isPicture 11 = .ok (.ireturn, 1) := by decide +kernel
theorem dX6_isThere_0 : decode cX6_isThere 0 = .ok (.aload_n 0, 1) := by decide +kernel
theorem dX6_isThere_1 : decode cX6_isThere 1 = .ok (.iload_n 1, 1) := by decide +kernel
theorem dX6_isThere_2 : decode cX6_isThere 2 = .ok (.invokevirtual 145, 3) := by decide +kernel
theorem dX6_isThere_5 : decode cX6_isThere 5 = .ok (.ifCond .eq 31, 3) := by decide +kernel
theorem dX6_isThere_8 : decode cX6_isThere 8 = .ok (.iload_n 2, 1) := by decide +kernel
theorem dX6_isThere_9 : decode cX6_isThere 9 = .ok (.iconst 0, 1) := by decide +kernel
theorem dX6_isThere_10 : decode cX6_isThere 10 = .ok (.bipush 23, 2) := by decide +kernel
theorem dX6_isThere_12 : decode cX6_isThere 12 = .ok (.invokestatic 84, 3) := by decide +kernel
theorem dX6_isThere_15 : decode cX6_isThere 15 = .ok (.ifCond .eq 21, 3) := by decide +kernel
theorem dX6_isThere_18 : decode cX6_isThere 18 = .ok (.aload_n 0, 1) := by decide +kernel
theorem dX6_isThere_19 : decode cX6_isThere 19 = .ok (.getfield 27, 3) := by decide +kernel
theorem dX6_isThere_22 : decode cX6_isThere 22 = .ok (.bipush 24, 2) := by decide +kernel
theorem dX6_isThere_24 : decode cX6_isThere 24 = .ok (.iload_n 1, 1) := by decide +kernel
theorem dX6_isThere_25 : decode cX6_isThere 25 = .ok (.imul, 1) := by decide +kernel
theorem dX6_isThere_26 : decode cX6_isThere 26 = .ok (.iload_n 2, 1) := by decide +kernel
theorem dX6_isThere_27 : decode cX6_isThere 27 = .ok (.iadd, 1) := by decide +kernel
theorem dX6_isThere_28 : decode cX6_isThere 28 = .ok (.baload, 1) := by decide +kernel
theorem dX6_isThere_29 : decode cX6_isThere 29 = .ok (.ifCond .eq 7, 3) := by decide +kernel
theorem dX6_isThere_32 : decode cX6_isThere 32 = .ok (.iconst 1, 1) := by decide +kernel
theorem dX6_isThere_33 : decode cX6_isThere 33 = .ok (.goto 4, 3) := by decide +kernel
theorem dX6_isThere_36 : decode cX6_isThere 36 = .ok (.iconst 0, 1) := by decide +kernel
theorem dX6_isThere_37 : decode cX6_isThere 37 = .ok (.ireturn, 1) := by decide +kernel
theorem dX6_torn_0 : decode cX6_torn 0 = .ok (.aload_n 0, 1) := by decide +kernel
theorem dX6_torn_1 : decode cX6_torn 1 = .ok (.iload_n 1, 1) := by decide +kernel
theorem dX6_torn_2 : decode cX6_torn 2 = .ok (.invokevirtual 145, 3) := by decide +kernel
theorem dX6_torn_5 : decode cX6_torn 5 = .ok (.ifCond .eq 12, 3) := by decide +kernel
theorem dX6_torn_8 : decode cX6_torn 8 = .ok (.aload_n 0, 1) := by decide +kernel
theorem dX6_torn_9 : decode cX6_torn 9 = .ok (.getfield 24, 3) := by decide +kernel
theorem dX6_torn_12 : decode cX6_torn 12 = .ok (.iload_n 1, 1) := by decide +kernel
theorem dX6_torn_13 : decode cX6_torn 13 = .ok (.iaload, 1) := by decide +kernel
theorem dX6_torn_14 : decode cX6_torn 14 = .ok (.goto 4, 3) := by decide +kernel
theorem dX6_torn_17 : decode cX6_torn 17 = .ok (.iconst (-1), 1) := by decide +kernel
theorem dX6_torn_18 : decode cX6_torn 18 = .ok (.ireturn, 1) := by decide +kernel
theorem dX6_look_0 : decode cX6_look 0 = .ok (.aload_n 0, 1) := by decide +kernel
theorem dX6_look_1 : decode cX6_look 1 = .ok (.iload_n 1, 1) := by decide +kernel
theorem dX6_look_2 : decode cX6_look 2 = .ok (.iload_n 2, 1) := by decide +kernel
theorem dX6_look_3 : decode cX6_look 3 = .ok (.invokevirtual 149, 3) := by decide +kernel
theorem dX6_look_6 : decode cX6_look 6 = .ok (.ifCond .ne 5, 3) := by decide +kernel
theorem dX6_look_9 : decode cX6_look 9 = .ok (.iconst (-1), 1) := by decide +kernel
theorem dX6_look_10 : decode cX6_look 10 = .ok (.ireturn, 1) := by decide +kernel
theorem dX6_look_11 : decode cX6_look 11 = .ok (.bipush 24, 2) := by decide +kernel
theorem dX6_look_13 : decode cX6_look 13 = .ok (.iload_n 1, 1) := by decide +kernel
theorem dX6_look_14 : decode cX6_look 14 = .ok (.imul, 1) := by decide +kernel
theorem dX6_look_15 : decode cX6_look 15 = .ok (.iload_n 2, 1) := by decide +kernel
theorem dX6_look_16 : decode cX6_look 16 = .ok (.iadd, 1) := by decide +kernel
theorem dX6_look_17 : decode cX6_look 17 = .ok (.istore 4, 2) := by decide +kernel
theorem dX6_look_19 : decode cX6_look 19 = .ok (.iload_n 3, 1) := by decide +kernel
theorem dX6_look_20 : decode cX6_look 20 = .ok (.bipush 10, 2) := by decide +kernel
theorem dX6_look_22 : decode cX6_look 22 = .ok (.isub, 1) := by decide +kernel
theorem dX6_look_23 : decode cX6_look 23 = .ok (.iconst 0, 1) := by decide +kernel
theorem dX6_look_24 : decode cX6_look 24 = .ok (.aload_n 0, 1) := by decide +kernel
theorem dX6_look_25 : decode cX6_look 25 = .ok (.getfield 43, 3) := by decide +kernel
theorem dX6_look_28 : decode cX6_look 28 = .ok (.iload 4, 2) := by decide +kernel
theorem dX6_look_30 : decode cX6_look 30 = .ok (.iaload, 1) := by decide +kernel
theorem dX6_look_31 : decode cX6_look 31 = .ok (.iconst 1, 1) := by decide +kernel
theorem dX6_look_32 : decode cX6_look 32 = .ok (.isub, 1) := by decide +kernel
theorem dX6_look_33 : decode cX6_look 33 = .ok (.invokestatic 84, 3) := by decide +kernel
theorem dX6_look_36 : decode cX6_look 36 = .ok (.ifCond .eq 19, 3) := by decide +kernel
theorem dX6_look_39 : decode cX6_look 39 = .ok (.aload_n 0, 1) := by decide +kernel
theorem dX6_look_40 : decode cX6_look 40 = .ok (.getfield 46, 3) := by decide +kernel
theorem dX6_look_43 : decode cX6_look 43 = .ok (.bipush 12, 2) := by decide +kernel
theorem dX6_look_45 : decode cX6_look 45 = .ok (.iload 4, 2) := by decide +kernel
theorem dX6_look_47 : decode cX6_look 47 = .ok (.imul, 1) := by decide +kernel
theorem dX6_look_48 : decode cX6_look 48 = .ok (.iload_n 3, 1) := by decide +kernel
theorem dX6_look_49 : decode cX6_look 49 = .ok (.iadd, 1) := by decide +kernel
theorem dX6_look_50 : decode cX6_look 50 = .ok (.bipush 10, 2) := by decide +kernel
theorem dX6_look_52 : decode cX6_look 52 = .ok (.isub, 1) := by decide +kernel
theorem dX6_look_53 : decode cX6_look 53 = .ok (.baload, 1) := by decide +kernel
theorem dX6_look_54 : decode cX6_look 54 = .ok (.ireturn, 1) := by decide +kernel
theorem dX6_look_55 : decode cX6_look 55 = .ok (.iload_n 3, 1) := by decide +kernel
theorem dX6_look_56 : decode cX6_look 56 = .ok (.tableswitch 76 0 4 #[36, 44, 52, 60, 68], 36) := by decide +kernel
theorem dX6_look_92 : decode cX6_look 92 = .ok (.aload_n 0, 1) := by decide +kernel
theorem dX6_look_93 : decode cX6_look 93 = .ok (.getfield 31, 3) := by decide +kernel
theorem dX6_look_96 : decode cX6_look 96 = .ok (.iload 4, 2) := by decide +kernel
theorem dX6_look_98 : decode cX6_look 98 = .ok (.iaload, 1) := by decide +kernel
theorem dX6_look_99 : decode cX6_look 99 = .ok (.ireturn, 1) := by decide +kernel
theorem dX6_look_100 : decode cX6_look 100 = .ok (.aload_n 0, 1) := by decide +kernel
theorem dX6_look_101 : decode cX6_look 101 = .ok (.getfield 34, 3) := by decide +kernel
theorem dX6_look_104 : decode cX6_look 104 = .ok (.iload 4, 2) := by decide +kernel
theorem dX6_look_106 : decode cX6_look 106 = .ok (.iaload, 1) := by decide +kernel
theorem dX6_look_107 : decode cX6_look 107 = .ok (.ireturn, 1) := by decide +kernel
theorem dX6_look_108 : decode cX6_look 108 = .ok (.aload_n 0, 1) := by decide +kernel
theorem dX6_look_109 : decode cX6_look 109 = .ok (.getfield 37, 3) := by decide +kernel
theorem dX6_look_112 : decode cX6_look 112 = .ok (.iload 4, 2) := by decide +kernel
theorem dX6_look_114 : decode cX6_look 114 = .ok (.iaload, 1) := by decide +kernel
theorem dX6_look_115 : decode cX6_look 115 = .ok (.ireturn, 1) := by decide +kernel
theorem dX6_look_116 : decode cX6_look 116 = .ok (.aload_n 0, 1) := by decide +kernel
theorem dX6_look_117 : decode cX6_look 117 = .ok (.getfield 40, 3) := by decide +kernel
theorem dX6_look_120 : decode cX6_look 120 = .ok (.iload 4, 2) := by decide +kernel
theorem dX6_look_122 : decode cX6_look 122 = .ok (.iaload, 1) := by decide +kernel
theorem dX6_look_123 : decode cX6_look 123 = .ok (.ireturn, 1) := by decide +kernel
theorem dX6_look_124 : decode cX6_look 124 = .ok (.aload_n 0, 1) := by decide +kernel
theorem dX6_look_125 : decode cX6_look 125 = .ok (.getfield 43, 3) := by decide +kernel
theorem dX6_look_128 : decode cX6_look 128 = .ok (.iload 4, 2) := by decide +kernel
theorem dX6_look_130 : decode cX6_look 130 = .ok (.iaload, 1) := by decide +kernel
theorem dX6_look_131 : decode cX6_look 131 = .ok (.ireturn, 1) := by decide +kernel
theorem dX6_look_132 : decode cX6_look 132 = .ok (.iconst (-1), 1) := by decide +kernel
theorem dX6_look_133 : decode cX6_look 133 = .ok (.ireturn, 1) := by decide +kernel
theorem dX6_holderOf_0 : decode cX6_holderOf 0 = .ok (.iconst 0, 1) := by decide +kernel
theorem dX6_holderOf_1 : decode cX6_holderOf 1 = .ok (.istore_n 3, 1) := by decide +kernel
theorem dX6_holderOf_2 : decode cX6_holderOf 2 = .ok (.iload_n 3, 1) := by decide +kernel
theorem dX6_holderOf_3 : decode cX6_holderOf 3 = .ok (.bipush 24, 2) := by decide +kernel
theorem dX6_holderOf_5 : decode cX6_holderOf 5 = .ok (.if_icmp .ge 44, 3) := by decide +kernel
theorem dX6_holderOf_8 : decode cX6_holderOf 8 = .ok (.aload_n 0, 1) := by decide +kernel
theorem dX6_holderOf_9 : decode cX6_holderOf 9 = .ok (.getfield 27, 3) := by decide +kernel
theorem dX6_holderOf_12 : decode cX6_holderOf 12 = .ok (.bipush 24, 2) := by decide +kernel
theorem dX6_holderOf_14 : decode cX6_holderOf 14 = .ok (.iload_n 1, 1) := by decide +kernel
theorem dX6_holderOf_15 : decode cX6_holderOf 15 = .ok (.imul, 1) := by decide +kernel
theorem dX6_holderOf_16 : decode cX6_holderOf 16 = .ok (.iload_n 3, 1) := by decide +kernel
theorem dX6_holderOf_17 : decode cX6_holderOf 17 = .ok (.iadd, 1) := by decide +kernel
theorem dX6_holderOf_18 : decode cX6_holderOf 18 = .ok (.baload, 1) := by decide +kernel
theorem dX6_holderOf_19 : decode cX6_holderOf 19 = .ok (.ifCond .eq 24, 3) := by decide +kernel
theorem dX6_holderOf_22 : decode cX6_holderOf 22 = .ok (.aload_n 0, 1) := by decide +kernel
theorem dX6_holderOf_23 : decode cX6_holderOf 23 = .ok (.getfield 37, 3) := by decide +kernel
theorem dX6_holderOf_26 : decode cX6_holderOf 26 = .ok (.bipush 24, 2) := by decide +kernel
theorem dX6_holderOf_28 : decode cX6_holderOf 28 = .ok (.iload_n 1, 1) := by decide +kernel
theorem dX6_holderOf_29 : decode cX6_holderOf 29 = .ok (.imul, 1) := by decide +kernel
theorem dX6_holderOf_30 : decode cX6_holderOf 30 = .ok (.iload_n 3, 1) := by decide +kernel
theorem dX6_holderOf_31 : decode cX6_holderOf 31 = .ok (.iadd, 1) := by decide +kernel
theorem dX6_holderOf_32 : decode cX6_holderOf 32 = .ok (.iaload, 1) := by decide +kernel
theorem dX6_holderOf_33 : decode cX6_holderOf 33 = .ok (.iload_n 2, 1) := by decide +kernel
theorem dX6_holderOf_34 : decode cX6_holderOf 34 = .ok (.ishr, 1) := by decide +kernel
theorem dX6_holderOf_35 : decode cX6_holderOf 35 = .ok (.iconst 1, 1) := by decide +kernel
theorem dX6_holderOf_36 : decode cX6_holderOf 36 = .ok (.iand, 1) := by decide +kernel
theorem dX6_holderOf_37 : decode cX6_holderOf 37 = .ok (.iconst 1, 1) := by decide +kernel
theorem dX6_holderOf_38 : decode cX6_holderOf 38 = .ok (.if_icmp .ne 5, 3) := by decide +kernel
theorem dX6_holderOf_41 : decode cX6_holderOf 41 = .ok (.iload_n 3, 1) := by decide +kernel
theorem dX6_holderOf_42 : decode cX6_holderOf 42 = .ok (.ireturn, 1) := by decide +kernel
theorem dX6_holderOf_43 : decode cX6_holderOf 43 = .ok (.iinc 3 1, 3) := by decide +kernel
theorem dX6_holderOf_46 : decode cX6_holderOf 46 = .ok (.goto (-44), 3) := by decide +kernel
theorem dX6_holderOf_49 : decode cX6_holderOf 49 = .ok (.iconst (-1), 1) := by decide +kernel
theorem dX6_holderOf_50 : decode cX6_holderOf 50 = .ok (.ireturn, 1) := by decide +kernel
theorem dX6_holder_0 : decode cX6_holder 0 = .ok (.aload_n 0, 1) := by decide +kernel
theorem dX6_holder_1 : decode cX6_holder 1 = .ok (.iload_n 1, 1) := by decide +kernel
theorem dX6_holder_2 : decode cX6_holder 2 = .ok (.invokevirtual 145, 3) := by decide +kernel
theorem dX6_holder_5 : decode cX6_holder 5 = .ok (.ifCond .eq 22, 3) := by decide +kernel
theorem dX6_holder_8 : decode cX6_holder 8 = .ok (.iload_n 2, 1) := by decide +kernel
theorem dX6_holder_9 : decode cX6_holder 9 = .ok (.iconst 0, 1) := by decide +kernel
theorem dX6_holder_10 : decode cX6_holder 10 = .ok (.bipush 15, 2) := by decide +kernel
theorem dX6_holder_12 : decode cX6_holder 12 = .ok (.invokestatic 84, 3) := by decide +kernel
theorem dX6_holder_15 : decode cX6_holder 15 = .ok (.ifCond .eq 12, 3) := by decide +kernel
theorem dX6_holder_18 : decode cX6_holder 18 = .ok (.aload_n 0, 1) := by decide +kernel
theorem dX6_holder_19 : decode cX6_holder 19 = .ok (.iload_n 1, 1) := by decide +kernel
theorem dX6_holder_20 : decode cX6_holder 20 = .ok (.iload_n 2, 1) := by decide +kernel
theorem dX6_holder_21 : decode cX6_holder 21 = .ok (.invokevirtual 153, 3) := by decide +kernel
theorem dX6_holder_24 : decode cX6_holder 24 = .ok (.goto 4, 3) := by decide +kernel
theorem dX6_holder_27 : decode cX6_holder 27 = .ok (.iconst (-1), 1) := by decide +kernel
theorem dX6_holder_28 : decode cX6_holder 28 = .ok (.ireturn, 1) := by decide +kernel
theorem dX6_next_0 : decode cX6_next 0 = .ok (.aload_n 0, 1) := by decide +kernel
theorem dX6_next_1 : decode cX6_next 1 = .ok (.getfield 40, 3) := by decide +kernel
theorem dX6_next_4 : decode cX6_next 4 = .ok (.bipush 24, 2) := by decide +kernel
theorem dX6_next_6 : decode cX6_next 6 = .ok (.iload_n 1, 1) := by decide +kernel
theorem dX6_next_7 : decode cX6_next 7 = .ok (.imul, 1) := by decide +kernel
theorem dX6_next_8 : decode cX6_next 8 = .ok (.iload_n 2, 1) := by decide +kernel
theorem dX6_next_9 : decode cX6_next 9 = .ok (.iadd, 1) := by decide +kernel
theorem dX6_next_10 : decode cX6_next 10 = .ok (.iaload, 1) := by decide +kernel
theorem dX6_next_11 : decode cX6_next 11 = .ok (.iconst (-1), 1) := by decide +kernel
theorem dX6_next_12 : decode cX6_next 12 = .ok (.if_icmp .ne 7, 3) := by decide +kernel
theorem dX6_next_15 : decode cX6_next 15 = .ok (.iconst (-1), 1) := by decide +kernel
theorem dX6_next_16 : decode cX6_next 16 = .ok (.goto 19, 3) := by decide +kernel
theorem dX6_next_19 : decode cX6_next 19 = .ok (.aload_n 0, 1) := by decide +kernel
theorem dX6_next_20 : decode cX6_next 20 = .ok (.iload_n 1, 1) := by decide +kernel
theorem dX6_next_21 : decode cX6_next 21 = .ok (.aload_n 0, 1) := by decide +kernel
theorem dX6_next_22 : decode cX6_next 22 = .ok (.getfield 40, 3) := by decide +kernel
theorem dX6_next_25 : decode cX6_next 25 = .ok (.bipush 24, 2) := by decide +kernel
theorem dX6_next_27 : decode cX6_next 27 = .ok (.iload_n 1, 1) := by decide +kernel
theorem dX6_next_28 : decode cX6_next 28 = .ok (.imul, 1) := by decide +kernel
theorem dX6_next_29 : decode cX6_next 29 = .ok (.iload_n 2, 1) := by decide +kernel
theorem dX6_next_30 : decode cX6_next 30 = .ok (.iadd, 1) := by decide +kernel
theorem dX6_next_31 : decode cX6_next 31 = .ok (.iaload, 1) := by decide +kernel
theorem dX6_next_32 : decode cX6_next 32 = .ok (.invokevirtual 153, 3) := by decide +kernel
theorem dX6_next_35 : decode cX6_next 35 = .ok (.ireturn, 1) := by decide +kernel
theorem dX6_after_0 : decode cX6_after 0 = .ok (.iload_n 2, 1) := by decide +kernel
theorem dX6_after_1 : decode cX6_after 1 = .ok (.istore 4, 2) := by decide +kernel
theorem dX6_after_3 : decode cX6_after 3 = .ok (.iconst 0, 1) := by decide +kernel
theorem dX6_after_4 : decode cX6_after 4 = .ok (.istore 5, 2) := by decide +kernel
theorem dX6_after_6 : decode cX6_after 6 = .ok (.iload 5, 2) := by decide +kernel
theorem dX6_after_8 : decode cX6_after 8 = .ok (.iload_n 3, 1) := by decide +kernel
theorem dX6_after_9 : decode cX6_after 9 = .ok (.if_icmp .ge 24, 3) := by decide +kernel
theorem dX6_after_12 : decode cX6_after 12 = .ok (.iload 4, 2) := by decide +kernel
theorem dX6_after_14 : decode cX6_after 14 = .ok (.iconst (-1), 1) := by decide +kernel
theorem dX6_after_15 : decode cX6_after 15 = .ok (.if_icmp .eq 18, 3) := by decide +kernel
theorem dX6_after_18 : decode cX6_after 18 = .ok (.aload_n 0, 1) := by decide +kernel
theorem dX6_after_19 : decode cX6_after 19 = .ok (.iload_n 1, 1) := by decide +kernel
theorem dX6_after_20 : decode cX6_after 20 = .ok (.iload 4, 2) := by decide +kernel
theorem dX6_after_22 : decode cX6_after 22 = .ok (.invokevirtual 156, 3) := by decide +kernel
theorem dX6_after_25 : decode cX6_after 25 = .ok (.istore 4, 2) := by decide +kernel
theorem dX6_after_27 : decode cX6_after 27 = .ok (.iinc 5 1, 3) := by decide +kernel
theorem dX6_after_30 : decode cX6_after 30 = .ok (.goto (-24), 3) := by decide +kernel
theorem dX6_after_33 : decode cX6_after 33 = .ok (.iload 4, 2) := by decide +kernel
theorem dX6_after_35 : decode cX6_after 35 = .ok (.ireturn, 1) := by decide +kernel
theorem dX6_back_0 : decode cX6_back 0 = .ok (.iload_n 2, 1) := by decide +kernel
theorem dX6_back_1 : decode cX6_back 1 = .ok (.istore_n 3, 1) := by decide +kernel
theorem dX6_back_2 : decode cX6_back 2 = .ok (.iconst 1, 1) := by decide +kernel
theorem dX6_back_3 : decode cX6_back 3 = .ok (.istore 4, 2) := by decide +kernel
theorem dX6_back_5 : decode cX6_back 5 = .ok (.iload 4, 2) := by decide +kernel
theorem dX6_back_7 : decode cX6_back 7 = .ok (.bipush 24, 2) := by decide +kernel
theorem dX6_back_9 : decode cX6_back 9 = .ok (.if_icmp .gt 31, 3) := by decide +kernel
theorem dX6_back_12 : decode cX6_back 12 = .ok (.aload_n 0, 1) := by decide +kernel
theorem dX6_back_13 : decode cX6_back 13 = .ok (.iload_n 1, 1) := by decide +kernel
theorem dX6_back_14 : decode cX6_back 14 = .ok (.iload_n 3, 1) := by decide +kernel
theorem dX6_back_15 : decode cX6_back 15 = .ok (.invokevirtual 156, 3) := by decide +kernel
theorem dX6_back_18 : decode cX6_back 18 = .ok (.istore_n 3, 1) := by decide +kernel
theorem dX6_back_19 : decode cX6_back 19 = .ok (.iload_n 3, 1) := by decide +kernel
theorem dX6_back_20 : decode cX6_back 20 = .ok (.iconst (-1), 1) := by decide +kernel
theorem dX6_back_21 : decode cX6_back 21 = .ok (.if_icmp .ne 5, 3) := by decide +kernel
theorem dX6_back_24 : decode cX6_back 24 = .ok (.iconst 0, 1) := by decide +kernel
theorem dX6_back_25 : decode cX6_back 25 = .ok (.ireturn, 1) := by decide +kernel
theorem dX6_back_26 : decode cX6_back 26 = .ok (.iload_n 3, 1) := by decide +kernel
theorem dX6_back_27 : decode cX6_back 27 = .ok (.iload_n 2, 1) := by decide +kernel
theorem dX6_back_28 : decode cX6_back 28 = .ok (.if_icmp .ne 6, 3) := by decide +kernel
theorem dX6_back_31 : decode cX6_back 31 = .ok (.iload 4, 2) := by decide +kernel
theorem dX6_back_33 : decode cX6_back 33 = .ok (.ireturn, 1) := by decide +kernel
theorem dX6_back_34 : decode cX6_back 34 = .ok (.iinc 4 1, 3) := by decide +kernel
theorem dX6_back_37 : decode cX6_back 37 = .ok (.goto (-32), 3) := by decide +kernel
theorem dX6_back_40 : decode cX6_back 40 = .ok (.iconst 0, 1) := by decide +kernel
theorem dX6_back_41 : decode cX6_back 41 = .ok (.ireturn, 1) := by decide +kernel
theorem dX6_isLowest_0 : decode cX6_isLowest 0 = .ok (.aload_n 0, 1) := by decide +kernel
theorem dX6_isLowest_1 : decode cX6_isLowest 1 = .ok (.iload_n 1, 1) := by decide +kernel
theorem dX6_isLowest_2 : decode cX6_isLowest 2 = .ok (.iload_n 2, 1) := by decide +kernel
theorem dX6_isLowest_3 : decode cX6_isLowest 3 = .ok (.invokevirtual 159, 3) := by decide +kernel
theorem dX6_isLowest_6 : decode cX6_isLowest 6 = .ok (.istore_n 3, 1) := by decide +kernel
theorem dX6_isLowest_7 : decode cX6_isLowest 7 = .ok (.iload_n 2, 1) := by decide +kernel
theorem dX6_isLowest_8 : decode cX6_isLowest 8 = .ok (.istore 4, 2) := by decide +kernel
theorem dX6_isLowest_10 : decode cX6_isLowest 10 = .ok (.iconst 1, 1) := by decide +kernel
theorem dX6_isLowest_11 : decode cX6_isLowest 11 = .ok (.istore 5, 2) := by decide +kernel
theorem dX6_isLowest_13 : decode cX6_isLowest 13 = .ok (.iload 5, 2) := by decide +kernel
theorem dX6_isLowest_15 : decode cX6_isLowest 15 = .ok (.iload_n 3, 1) := by decide +kernel
theorem dX6_isLowest_16 : decode cX6_isLowest 16 = .ok (.if_icmp .ge 26, 3) := by decide +kernel
theorem dX6_isLowest_19 : decode cX6_isLowest 19 = .ok (.aload_n 0, 1) := by decide +kernel
theorem dX6_isLowest_20 : decode cX6_isLowest 20 = .ok (.iload_n 1, 1) := by decide +kernel
theorem dX6_isLowest_21 : decode cX6_isLowest 21 = .ok (.iload 4, 2) := by decide +kernel
theorem dX6_isLowest_23 : decode cX6_isLowest 23 = .ok (.invokevirtual 156, 3) := by decide +kernel
theorem dX6_isLowest_26 : decode cX6_isLowest 26 = .ok (.istore 4, 2) := by decide +kernel
theorem dX6_isLowest_28 : decode cX6_isLowest 28 = .ok (.iload 4, 2) := by decide +kernel
theorem dX6_isLowest_30 : decode cX6_isLowest 30 = .ok (.iload_n 2, 1) := by decide +kernel
theorem dX6_isLowest_31 : decode cX6_isLowest 31 = .ok (.if_icmp .ge 5, 3) := by decide +kernel
theorem dX6_isLowest_34 : decode cX6_isLowest 34 = .ok (.iconst 0, 1) := by decide +kernel
theorem dX6_isLowest_35 : decode cX6_isLowest 35 = .ok (.ireturn, 1) := by decide +kernel
theorem dX6_isLowest_36 : decode cX6_isLowest 36 = .ok (.iinc 5 1, 3) := by decide +kernel
theorem dX6_isLowest_39 : decode cX6_isLowest 39 = .ok (.goto (-26), 3) := by decide +kernel
theorem dX6_isLowest_42 : decode cX6_isLowest 42 = .ok (.iload_n 3, 1) := by decide +kernel
theorem dX6_isLowest_43 : decode cX6_isLowest 43 = .ok (.ifCond .le 7, 3) := by decide +kernel
theorem dX6_isLowest_46 : decode cX6_isLowest 46 = .ok (.iconst 1, 1) := by decide +kernel
theorem dX6_isLowest_47 : decode cX6_isLowest 47 = .ok (.goto 4, 3) := by decide +kernel
theorem dX6_isLowest_50 : decode cX6_isLowest 50 = .ok (.iconst 0, 1) := by decide +kernel
theorem dX6_isLowest_51 : decode cX6_isLowest 51 = .ok (.ireturn, 1) := by decide +kernel
theorem dX6_rings_0 : decode cX6_rings 0 = .ok (.aload_n 0, 1) := by decide +kernel
theorem dX6_rings_1 : decode cX6_rings 1 = .ok (.iload_n 1, 1) := by decide +kernel
theorem dX6_rings_2 : decode cX6_rings 2 = .ok (.invokevirtual 145, 3) := by decide +kernel
theorem dX6_rings_5 : decode cX6_rings 5 = .ok (.ifCond .ne 5, 3) := by decide +kernel
theorem dX6_rings_8 : decode cX6_rings 8 = .ok (.iconst (-1), 1) := by decide +kernel
theorem dX6_rings_9 : decode cX6_rings 9 = .ok (.ireturn, 1) := by decide +kernel
theorem dX6_rings_10 : decode cX6_rings 10 = .ok (.iconst 0, 1) := by decide +kernel
theorem dX6_rings_11 : decode cX6_rings 11 = .ok (.istore_n 2, 1) := by decide +kernel
theorem dX6_rings_12 : decode cX6_rings 12 = .ok (.iconst 0, 1) := by decide +kernel
theorem dX6_rings_13 : decode cX6_rings 13 = .ok (.istore_n 3, 1) := by decide +kernel
theorem dX6_rings_14 : decode cX6_rings 14 = .ok (.iload_n 3, 1) := by decide +kernel
theorem dX6_rings_15 : decode cX6_rings 15 = .ok (.bipush 24, 2) := by decide +kernel
theorem dX6_rings_17 : decode cX6_rings 17 = .ok (.if_icmp .ge 40, 3) := by decide +kernel
theorem dX6_rings_20 : decode cX6_rings 20 = .ok (.iload_n 2, 1) := by decide +kernel
theorem dX6_rings_21 : decode cX6_rings 21 = .ok (.aload_n 0, 1) := by decide +kernel
theorem dX6_rings_22 : decode cX6_rings 22 = .ok (.getfield 27, 3) := by decide +kernel
theorem dX6_rings_25 : decode cX6_rings 25 = .ok (.bipush 24, 2) := by decide +kernel
theorem dX6_rings_27 : decode cX6_rings 27 = .ok (.iload_n 1, 1) := by decide +kernel
theorem dX6_rings_28 : decode cX6_rings 28 = .ok (.imul, 1) := by decide +kernel
theorem dX6_rings_29 : decode cX6_rings 29 = .ok (.iload_n 3, 1) := by decide +kernel
theorem dX6_rings_30 : decode cX6_rings 30 = .ok (.iadd, 1) := by decide +kernel
theorem dX6_rings_31 : decode cX6_rings 31 = .ok (.baload, 1) := by decide +kernel
theorem dX6_rings_32 : decode cX6_rings 32 = .ok (.ifCond .eq 16, 3) := by decide +kernel
theorem dX6_rings_35 : decode cX6_rings 35 = .ok (.aload_n 0, 1) := by decide +kernel
theorem dX6_rings_36 : decode cX6_rings 36 = .ok (.iload_n 1, 1) := by decide +kernel
theorem dX6_rings_37 : decode cX6_rings 37 = .ok (.iload_n 3, 1) := by decide +kernel
theorem dX6_rings_38 : decode cX6_rings 38 = .ok (.invokevirtual 162, 3) := by decide +kernel
theorem dX6_rings_41 : decode cX6_rings 41 = .ok (.ifCond .eq 7, 3) := by decide +kernel
theorem dX6_rings_44 : decode cX6_rings 44 = .ok (.iconst 1, 1) := by decide +kernel
theorem dX6_rings_45 : decode cX6_rings 45 = .ok (.goto 4, 3) := by decide +kernel
theorem dX6_rings_48 : decode cX6_rings 48 = .ok (.iconst 0, 1) := by decide +kernel
theorem dX6_rings_49 : decode cX6_rings 49 = .ok (.iadd, 1) := by decide +kernel
theorem dX6_rings_50 : decode cX6_rings 50 = .ok (.istore_n 2, 1) := by decide +kernel
theorem dX6_rings_51 : decode cX6_rings 51 = .ok (.iinc 3 1, 3) := by decide +kernel
theorem dX6_rings_54 : decode cX6_rings 54 = .ok (.goto (-40), 3) := by decide +kernel
theorem dX6_rings_57 : decode cX6_rings 57 = .ok (.iload_n 2, 1) := by decide +kernel
theorem dX6_rings_58 : decode cX6_rings 58 = .ok (.ireturn, 1) := by decide +kernel
theorem dX6_ring_0 : decode cX6_ring 0 = .ok (.aload_n 0, 1) := by decide +kernel
theorem dX6_ring_1 : decode cX6_ring 1 = .ok (.iload_n 1, 1) := by decide +kernel
theorem dX6_ring_2 : decode cX6_ring 2 = .ok (.invokevirtual 145, 3) := by decide +kernel
theorem dX6_ring_5 : decode cX6_ring 5 = .ok (.ifCond .eq 11, 3) := by decide +kernel
theorem dX6_ring_8 : decode cX6_ring 8 = .ok (.iload_n 2, 1) := by decide +kernel
theorem dX6_ring_9 : decode cX6_ring 9 = .ok (.ifCond .lt 7, 3) := by decide +kernel
theorem dX6_ring_12 : decode cX6_ring 12 = .ok (.iload_n 3, 1) := by decide +kernel
theorem dX6_ring_13 : decode cX6_ring 13 = .ok (.ifCond .ge 5, 3) := by decide +kernel
theorem dX6_ring_16 : decode cX6_ring 16 = .ok (.iconst (-1), 1) := by decide +kernel
theorem dX6_ring_17 : decode cX6_ring 17 = .ok (.ireturn, 1) := by decide +kernel
theorem dX6_ring_18 : decode cX6_ring 18 = .ok (.iconst 0, 1) := by decide +kernel
theorem dX6_ring_19 : decode cX6_ring 19 = .ok (.istore 4, 2) := by decide +kernel
theorem dX6_ring_21 : decode cX6_ring 21 = .ok (.iconst 0, 1) := by decide +kernel
theorem dX6_ring_22 : decode cX6_ring 22 = .ok (.istore 5, 2) := by decide +kernel
theorem dX6_ring_24 : decode cX6_ring 24 = .ok (.iload 5, 2) := by decide +kernel
theorem dX6_ring_26 : decode cX6_ring 26 = .ok (.bipush 24, 2) := by decide +kernel
theorem dX6_ring_28 : decode cX6_ring 28 = .ok (.if_icmp .ge 70, 3) := by decide +kernel
theorem dX6_ring_31 : decode cX6_ring 31 = .ok (.aload_n 0, 1) := by decide +kernel
theorem dX6_ring_32 : decode cX6_ring 32 = .ok (.getfield 27, 3) := by decide +kernel
theorem dX6_ring_35 : decode cX6_ring 35 = .ok (.bipush 24, 2) := by decide +kernel
theorem dX6_ring_37 : decode cX6_ring 37 = .ok (.iload_n 1, 1) := by decide +kernel
theorem dX6_ring_38 : decode cX6_ring 38 = .ok (.imul, 1) := by decide +kernel
theorem dX6_ring_39 : decode cX6_ring 39 = .ok (.iload 5, 2) := by decide +kernel
theorem dX6_ring_41 : decode cX6_ring 41 = .ok (.iadd, 1) := by decide +kernel
theorem dX6_ring_42 : decode cX6_ring 42 = .ok (.baload, 1) := by decide +kernel
theorem dX6_ring_43 : decode cX6_ring 43 = .ok (.ifCond .eq 49, 3) := by decide +kernel
theorem dX6_ring_46 : decode cX6_ring 46 = .ok (.aload_n 0, 1) := by decide +kernel
theorem dX6_ring_47 : decode cX6_ring 47 = .ok (.iload_n 1, 1) := by decide +kernel
theorem dX6_ring_48 : decode cX6_ring 48 = .ok (.iload 5, 2) := by decide +kernel
theorem dX6_ring_50 : decode cX6_ring 50 = .ok (.invokevirtual 162, 3) := by decide +kernel
theorem dX6_ring_53 : decode cX6_ring 53 = .ok (.ifCond .ne 6, 3) := by decide +kernel
theorem dX6_ring_56 : decode cX6_ring 56 = .ok (.goto 36, 3) := by decide +kernel
theorem dX6_ring_59 : decode cX6_ring 59 = .ok (.iload 4, 2) := by decide +kernel
theorem dX6_ring_61 : decode cX6_ring 61 = .ok (.iload_n 2, 1) := by decide +kernel
theorem dX6_ring_62 : decode cX6_ring 62 = .ok (.if_icmp .ne 27, 3) := by decide +kernel
theorem dX6_ring_65 : decode cX6_ring 65 = .ok (.iload_n 3, 1) := by decide +kernel
theorem dX6_ring_66 : decode cX6_ring 66 = .ok (.aload_n 0, 1) := by decide +kernel
theorem dX6_ring_67 : decode cX6_ring 67 = .ok (.iload_n 1, 1) := by decide +kernel
theorem dX6_ring_68 : decode cX6_ring 68 = .ok (.iload 5, 2) := by decide +kernel
theorem dX6_ring_70 : decode cX6_ring 70 = .ok (.invokevirtual 159, 3) := by decide +kernel
theorem dX6_ring_73 : decode cX6_ring 73 = .ok (.if_icmp .ge 14, 3) := by decide +kernel
theorem dX6_ring_76 : decode cX6_ring 76 = .ok (.aload_n 0, 1) := by decide +kernel
theorem dX6_ring_77 : decode cX6_ring 77 = .ok (.iload_n 1, 1) := by decide +kernel
theorem dX6_ring_78 : decode cX6_ring 78 = .ok (.iload 5, 2) := by decide +kernel
theorem dX6_ring_80 : decode cX6_ring 80 = .ok (.iload_n 3, 1) := by decide +kernel
theorem dX6_ring_81 : decode cX6_ring 81 = .ok (.invokevirtual 165, 3) := by decide +kernel
theorem dX6_ring_84 : decode cX6_ring 84 = .ok (.goto 4, 3) := by decide +kernel
theorem dX6_ring_87 : decode cX6_ring 87 = .ok (.iconst (-1), 1) := by decide +kernel
theorem dX6_ring_88 : decode cX6_ring 88 = .ok (.ireturn, 1) := by decide +kernel
theorem dX6_ring_89 : decode cX6_ring 89 = .ok (.iinc 4 1, 3) := by decide +kernel
theorem dX6_ring_92 : decode cX6_ring 92 = .ok (.iinc 5 1, 3) := by decide +kernel
theorem dX6_ring_95 : decode cX6_ring 95 = .ok (.goto (-71), 3) := by decide +kernel
theorem dX6_ring_98 : decode cX6_ring 98 = .ok (.iconst (-1), 1) := by decide +kernel
theorem dX6_ring_99 : decode cX6_ring 99 = .ok (.ireturn, 1) := by decide +kernel
theorem dX6_foot_0 : decode cX6_foot 0 = .ok (.aload_n 0, 1) := by decide +kernel
theorem dX6_foot_1 : decode cX6_foot 1 = .ok (.iload_n 1, 1) := by decide +kernel
theorem dX6_foot_2 : decode cX6_foot 2 = .ok (.iload_n 2, 1) := by decide +kernel
theorem dX6_foot_3 : decode cX6_foot 3 = .ok (.invokevirtual 149, 3) := by decide +kernel
theorem dX6_foot_6 : decode cX6_foot 6 = .ok (.ifCond .eq 30, 3) := by decide +kernel
theorem dX6_foot_9 : decode cX6_foot 9 = .ok (.aload_n 0, 1) := by decide +kernel
theorem dX6_foot_10 : decode cX6_foot 10 = .ok (.getfield 40, 3) := by decide +kernel
theorem dX6_foot_13 : decode cX6_foot 13 = .ok (.bipush 24, 2) := by decide +kernel
theorem dX6_foot_15 : decode cX6_foot 15 = .ok (.iload_n 1, 1) := by decide +kernel
theorem dX6_foot_16 : decode cX6_foot 16 = .ok (.imul, 1) := by decide +kernel
theorem dX6_foot_17 : decode cX6_foot 17 = .ok (.iload_n 2, 1) := by decide +kernel
theorem dX6_foot_18 : decode cX6_foot 18 = .ok (.iadd, 1) := by decide +kernel
theorem dX6_foot_19 : decode cX6_foot 19 = .ok (.iaload, 1) := by decide +kernel
theorem dX6_foot_20 : decode cX6_foot 20 = .ok (.iconst (-1), 1) := by decide +kernel
theorem dX6_foot_21 : decode cX6_foot 21 = .ok (.if_icmp .eq 15, 3) := by decide +kernel
theorem dX6_foot_24 : decode cX6_foot 24 = .ok (.aload_n 0, 1) := by decide +kernel
theorem dX6_foot_25 : decode cX6_foot 25 = .ok (.iload_n 1, 1) := by decide +kernel
theorem dX6_foot_26 : decode cX6_foot 26 = .ok (.iload_n 2, 1) := by decide +kernel
theorem dX6_foot_27 : decode cX6_foot 27 = .ok (.bipush 24, 2) := by decide +kernel
theorem dX6_foot_29 : decode cX6_foot 29 = .ok (.invokevirtual 165, 3) := by decide +kernel
theorem dX6_foot_32 : decode cX6_foot 32 = .ok (.iconst (-1), 1) := by decide +kernel
theorem dX6_foot_33 : decode cX6_foot 33 = .ok (.if_icmp .eq 5, 3) := by decide +kernel
theorem dX6_foot_36 : decode cX6_foot 36 = .ok (.iconst (-1), 1) := by decide +kernel
theorem dX6_foot_37 : decode cX6_foot 37 = .ok (.ireturn, 1) := by decide +kernel
theorem dX6_foot_38 : decode cX6_foot 38 = .ok (.iload_n 2, 1) := by decide +kernel
theorem dX6_foot_39 : decode cX6_foot 39 = .ok (.istore_n 3, 1) := by decide +kernel
theorem dX6_foot_40 : decode cX6_foot 40 = .ok (.aload_n 0, 1) := by decide +kernel
theorem dX6_foot_41 : decode cX6_foot 41 = .ok (.iload_n 1, 1) := by decide +kernel
theorem dX6_foot_42 : decode cX6_foot 42 = .ok (.iload_n 3, 1) := by decide +kernel
theorem dX6_foot_43 : decode cX6_foot 43 = .ok (.invokevirtual 156, 3) := by decide +kernel
theorem dX6_foot_46 : decode cX6_foot 46 = .ok (.iconst (-1), 1) := by decide +kernel
theorem dX6_foot_47 : decode cX6_foot 47 = .ok (.if_icmp .eq 13, 3) := by decide +kernel
theorem dX6_foot_50 : decode cX6_foot 50 = .ok (.aload_n 0, 1) := by decide +kernel
theorem dX6_foot_51 : decode cX6_foot 51 = .ok (.iload_n 1, 1) := by decide +kernel
theorem dX6_foot_52 : decode cX6_foot 52 = .ok (.iload_n 3, 1) := by decide +kernel
theorem dX6_foot_53 : decode cX6_foot 53 = .ok (.invokevirtual 156, 3) := by decide +kernel
theorem dX6_foot_56 : decode cX6_foot 56 = .ok (.istore_n 3, 1) := by decide +kernel
theorem dX6_foot_57 : decode cX6_foot 57 = .ok (.goto (-17), 3) := by decide +kernel
theorem dX6_foot_60 : decode cX6_foot 60 = .ok (.iload_n 3, 1) := by decide +kernel
theorem dX6_foot_61 : decode cX6_foot 61 = .ok (.ireturn, 1) := by decide +kernel
theorem dX6_comes_0 : decode cX6_comes 0 = .ok (.iload_n 2, 1) := by decide +kernel
theorem dX6_comes_1 : decode cX6_comes 1 = .ok (.istore 4, 2) := by decide +kernel
theorem dX6_comes_3 : decode cX6_comes 3 = .ok (.iconst 0, 1) := by decide +kernel
theorem dX6_comes_4 : decode cX6_comes 4 = .ok (.istore 5, 2) := by decide +kernel
theorem dX6_comes_6 : decode cX6_comes 6 = .ok (.iload 5, 2) := by decide +kernel
theorem dX6_comes_8 : decode cX6_comes 8 = .ok (.bipush 24, 2) := by decide +kernel
theorem dX6_comes_10 : decode cX6_comes 10 = .ok (.if_icmp .gt 32, 3) := by decide +kernel
theorem dX6_comes_13 : decode cX6_comes 13 = .ok (.iload 4, 2) := by decide +kernel
theorem dX6_comes_15 : decode cX6_comes 15 = .ok (.iconst (-1), 1) := by decide +kernel
theorem dX6_comes_16 : decode cX6_comes 16 = .ok (.if_icmp .eq 26, 3) := by decide +kernel
theorem dX6_comes_19 : decode cX6_comes 19 = .ok (.iload 4, 2) := by decide +kernel
theorem dX6_comes_21 : decode cX6_comes 21 = .ok (.iload_n 3, 1) := by decide +kernel
theorem dX6_comes_22 : decode cX6_comes 22 = .ok (.if_icmp .ne 5, 3) := by decide +kernel
theorem dX6_comes_25 : decode cX6_comes 25 = .ok (.iconst 1, 1) := by decide +kernel
theorem dX6_comes_26 : decode cX6_comes 26 = .ok (.ireturn, 1) := by decide +kernel
theorem dX6_comes_27 : decode cX6_comes 27 = .ok (.aload_n 0, 1) := by decide +kernel
theorem dX6_comes_28 : decode cX6_comes 28 = .ok (.iload_n 1, 1) := by decide +kernel
theorem dX6_comes_29 : decode cX6_comes 29 = .ok (.iload 4, 2) := by decide +kernel
theorem dX6_comes_31 : decode cX6_comes 31 = .ok (.invokevirtual 156, 3) := by decide +kernel
theorem dX6_comes_34 : decode cX6_comes 34 = .ok (.istore 4, 2) := by decide +kernel
theorem dX6_comes_36 : decode cX6_comes 36 = .ok (.iinc 5 1, 3) := by decide +kernel
theorem dX6_comes_39 : decode cX6_comes 39 = .ok (.goto (-33), 3) := by decide +kernel
theorem dX6_comes_42 : decode cX6_comes 42 = .ok (.iconst 0, 1) := by decide +kernel
theorem dX6_comes_43 : decode cX6_comes 43 = .ok (.ireturn, 1) := by decide +kernel
theorem dX6_through_0 : decode cX6_through 0 = .ok (.aload_n 0, 1) := by decide +kernel
theorem dX6_through_1 : decode cX6_through 1 = .ok (.iload_n 1, 1) := by decide +kernel
theorem dX6_through_2 : decode cX6_through 2 = .ok (.iload_n 2, 1) := by decide +kernel
theorem dX6_through_3 : decode cX6_through 3 = .ok (.invokevirtual 149, 3) := by decide +kernel
theorem dX6_through_6 : decode cX6_through 6 = .ok (.ifCond .ne 5, 3) := by decide +kernel
theorem dX6_through_9 : decode cX6_through 9 = .ok (.iconst (-1), 1) := by decide +kernel
theorem dX6_through_10 : decode cX6_through 10 = .ok (.ireturn, 1) := by decide +kernel
theorem dX6_through_11 : decode cX6_through 11 = .ok (.iconst 0, 1) := by decide +kernel
theorem dX6_through_12 : decode cX6_through 12 = .ok (.istore_n 3, 1) := by decide +kernel
theorem dX6_through_13 : decode cX6_through 13 = .ok (.iconst 0, 1) := by decide +kernel
theorem dX6_through_14 : decode cX6_through 14 = .ok (.istore 4, 2) := by decide +kernel
theorem dX6_through_16 : decode cX6_through 16 = .ok (.iload 4, 2) := by decide +kernel
theorem dX6_through_18 : decode cX6_through 18 = .ok (.bipush 24, 2) := by decide +kernel
theorem dX6_through_20 : decode cX6_through 20 = .ok (.if_icmp .ge 49, 3) := by decide +kernel
theorem dX6_through_23 : decode cX6_through 23 = .ok (.iload_n 3, 1) := by decide +kernel
theorem dX6_through_24 : decode cX6_through 24 = .ok (.iload 4, 2) := by decide +kernel
theorem dX6_through_26 : decode cX6_through 26 = .ok (.iload_n 2, 1) := by decide +kernel
theorem dX6_through_27 : decode cX6_through 27 = .ok (.if_icmp .eq 33, 3) := by decide +kernel
theorem dX6_through_30 : decode cX6_through 30 = .ok (.aload_n 0, 1) := by decide +kernel
theorem dX6_through_31 : decode cX6_through 31 = .ok (.getfield 27, 3) := by decide +kernel
theorem dX6_through_34 : decode cX6_through 34 = .ok (.bipush 24, 2) := by decide +kernel
theorem dX6_through_36 : decode cX6_through 36 = .ok (.iload_n 1, 1) := by decide +kernel
theorem dX6_through_37 : decode cX6_through 37 = .ok (.imul, 1) := by decide +kernel
theorem dX6_through_38 : decode cX6_through 38 = .ok (.iload 4, 2) := by decide +kernel
theorem dX6_through_40 : decode cX6_through 40 = .ok (.iadd, 1) := by decide +kernel
theorem dX6_through_41 : decode cX6_through 41 = .ok (.baload, 1) := by decide +kernel
theorem dX6_through_42 : decode cX6_through 42 = .ok (.ifCond .eq 18, 3) := by decide +kernel
theorem dX6_through_45 : decode cX6_through 45 = .ok (.aload_n 0, 1) := by decide +kernel
theorem dX6_through_46 : decode cX6_through 46 = .ok (.iload_n 1, 1) := by decide +kernel
theorem dX6_through_47 : decode cX6_through 47 = .ok (.iload 4, 2) := by decide +kernel
theorem dX6_through_49 : decode cX6_through 49 = .ok (.iload_n 2, 1) := by decide +kernel
theorem dX6_through_50 : decode cX6_through 50 = .ok (.invokevirtual 169, 3) := by decide +kernel
theorem dX6_through_53 : decode cX6_through 53 = .ok (.ifCond .eq 7, 3) := by decide +kernel
theorem dX6_through_56 : decode cX6_through 56 = .ok (.iconst 1, 1) := by decide +kernel
theorem dX6_through_57 : decode cX6_through 57 = .ok (.goto 4, 3) := by decide +kernel
theorem dX6_through_60 : decode cX6_through 60 = .ok (.iconst 0, 1) := by decide +kernel
theorem dX6_through_61 : decode cX6_through 61 = .ok (.iadd, 1) := by decide +kernel
theorem dX6_through_62 : decode cX6_through 62 = .ok (.istore_n 3, 1) := by decide +kernel
theorem dX6_through_63 : decode cX6_through 63 = .ok (.iinc 4 1, 3) := by decide +kernel
theorem dX6_through_66 : decode cX6_through 66 = .ok (.goto (-50), 3) := by decide +kernel
theorem dX6_through_69 : decode cX6_through 69 = .ok (.iload_n 3, 1) := by decide +kernel
theorem dX6_through_70 : decode cX6_through 70 = .ok (.ireturn, 1) := by decide +kernel
theorem dX6_weightOf_0 : decode cX6_weightOf 0 = .ok (.iconst 0, 1) := by decide +kernel
theorem dX6_weightOf_1 : decode cX6_weightOf 1 = .ok (.istore_n 3, 1) := by decide +kernel
theorem dX6_weightOf_2 : decode cX6_weightOf 2 = .ok (.iconst 0, 1) := by decide +kernel
theorem dX6_weightOf_3 : decode cX6_weightOf 3 = .ok (.istore 4, 2) := by decide +kernel
theorem dX6_weightOf_5 : decode cX6_weightOf 5 = .ok (.iload 4, 2) := by decide +kernel
theorem dX6_weightOf_7 : decode cX6_weightOf 7 = .ok (.bipush 24, 2) := by decide +kernel
theorem dX6_weightOf_9 : decode cX6_weightOf 9 = .ok (.if_icmp .ge 106, 3) := by decide +kernel
theorem dX6_weightOf_12 : decode cX6_weightOf 12 = .ok (.aload_n 0, 1) := by decide +kernel
theorem dX6_weightOf_13 : decode cX6_weightOf 13 = .ok (.getfield 27, 3) := by decide +kernel
theorem dX6_weightOf_16 : decode cX6_weightOf 16 = .ok (.bipush 24, 2) := by decide +kernel
theorem dX6_weightOf_18 : decode cX6_weightOf 18 = .ok (.iload_n 1, 1) := by decide +kernel
theorem dX6_weightOf_19 : decode cX6_weightOf 19 = .ok (.imul, 1) := by decide +kernel
theorem dX6_weightOf_20 : decode cX6_weightOf 20 = .ok (.iload 4, 2) := by decide +kernel
theorem dX6_weightOf_22 : decode cX6_weightOf 22 = .ok (.iadd, 1) := by decide +kernel
theorem dX6_weightOf_23 : decode cX6_weightOf 23 = .ok (.baload, 1) := by decide +kernel
theorem dX6_weightOf_24 : decode cX6_weightOf 24 = .ok (.ifCond .ne 6, 3) := by decide +kernel
theorem dX6_weightOf_27 : decode cX6_weightOf 27 = .ok (.goto 82, 3) := by decide +kernel
theorem dX6_weightOf_30 : decode cX6_weightOf 30 = .ok (.iconst 0, 1) := by decide +kernel
theorem dX6_weightOf_31 : decode cX6_weightOf 31 = .ok (.istore 5, 2) := by decide +kernel
theorem dX6_weightOf_33 : decode cX6_weightOf 33 = .ok (.iload 4, 2) := by decide +kernel
theorem dX6_weightOf_35 : decode cX6_weightOf 35 = .ok (.istore 6, 2) := by decide +kernel
theorem dX6_weightOf_37 : decode cX6_weightOf 37 = .ok (.iconst 0, 1) := by decide +kernel
theorem dX6_weightOf_38 : decode cX6_weightOf 38 = .ok (.istore 7, 2) := by decide +kernel
theorem dX6_weightOf_40 : decode cX6_weightOf 40 = .ok (.iload 7, 2) := by decide +kernel
theorem dX6_weightOf_42 : decode cX6_weightOf 42 = .ok (.bipush 24, 2) := by decide +kernel
theorem dX6_weightOf_44 : decode cX6_weightOf 44 = .ok (.if_icmp .gt 52, 3) := by decide +kernel
theorem dX6_weightOf_47 : decode cX6_weightOf 47 = .ok (.iload 6, 2) := by decide +kernel
theorem dX6_weightOf_49 : decode cX6_weightOf 49 = .ok (.iconst (-1), 1) := by decide +kernel
theorem dX6_weightOf_50 : decode cX6_weightOf 50 = .ok (.if_icmp .eq 46, 3) := by decide +kernel
theorem dX6_weightOf_53 : decode cX6_weightOf 53 = .ok (.iload 5, 2) := by decide +kernel
theorem dX6_weightOf_55 : decode cX6_weightOf 55 = .ok (.ifCond .ne 19, 3) := by decide +kernel
theorem dX6_weightOf_58 : decode cX6_weightOf 58 = .ok (.aload_n 0, 1) := by decide +kernel
theorem dX6_weightOf_59 : decode cX6_weightOf 59 = .ok (.getfield 40, 3) := by decide +kernel
theorem dX6_weightOf_62 : decode cX6_weightOf 62 = .ok (.bipush 24, 2) := by decide +kernel
theorem dX6_weightOf_64 : decode cX6_weightOf 64 = .ok (.iload_n 1, 1) := by decide +kernel
theorem dX6_weightOf_65 : decode cX6_weightOf 65 = .ok (.imul, 1) := by decide +kernel
theorem dX6_weightOf_66 : decode cX6_weightOf 66 = .ok (.iload 6, 2) := by decide +kernel
theorem dX6_weightOf_68 : decode cX6_weightOf 68 = .ok (.iadd, 1) := by decide +kernel
theorem dX6_weightOf_69 : decode cX6_weightOf 69 = .ok (.iaload, 1) := by decide +kernel
theorem dX6_weightOf_70 : decode cX6_weightOf 70 = .ok (.iload_n 2, 1) := by decide +kernel
theorem dX6_weightOf_71 : decode cX6_weightOf 71 = .ok (.if_icmp .ne 7, 3) := by decide +kernel
theorem dX6_weightOf_74 : decode cX6_weightOf 74 = .ok (.iconst 1, 1) := by decide +kernel
theorem dX6_weightOf_75 : decode cX6_weightOf 75 = .ok (.goto 4, 3) := by decide +kernel
theorem dX6_weightOf_78 : decode cX6_weightOf 78 = .ok (.iconst 0, 1) := by decide +kernel
theorem dX6_weightOf_79 : decode cX6_weightOf 79 = .ok (.istore 5, 2) := by decide +kernel
theorem dX6_weightOf_81 : decode cX6_weightOf 81 = .ok (.aload_n 0, 1) := by decide +kernel
theorem dX6_weightOf_82 : decode cX6_weightOf 82 = .ok (.iload_n 1, 1) := by decide +kernel
theorem dX6_weightOf_83 : decode cX6_weightOf 83 = .ok (.iload 6, 2) := by decide +kernel
theorem dX6_weightOf_85 : decode cX6_weightOf 85 = .ok (.invokevirtual 156, 3) := by decide +kernel
theorem dX6_weightOf_88 : decode cX6_weightOf 88 = .ok (.istore 6, 2) := by decide +kernel
theorem dX6_weightOf_90 : decode cX6_weightOf 90 = .ok (.iinc 7 1, 3) := by decide +kernel
theorem dX6_weightOf_93 : decode cX6_weightOf 93 = .ok (.goto (-53), 3) := by decide +kernel
theorem dX6_weightOf_96 : decode cX6_weightOf 96 = .ok (.iload_n 3, 1) := by decide +kernel
theorem dX6_weightOf_97 : decode cX6_weightOf 97 = .ok (.iload 5, 2) := by decide +kernel
theorem dX6_weightOf_99 : decode cX6_weightOf 99 = .ok (.ifCond .eq 7, 3) := by decide +kernel
theorem dX6_weightOf_102 : decode cX6_weightOf 102 = .ok (.iconst 1, 1) := by decide +kernel
theorem dX6_weightOf_103 : decode cX6_weightOf 103 = .ok (.goto 4, 3) := by decide +kernel
theorem dX6_weightOf_106 : decode cX6_weightOf 106 = .ok (.iconst 0, 1) := by decide +kernel
theorem dX6_weightOf_107 : decode cX6_weightOf 107 = .ok (.iadd, 1) := by decide +kernel
theorem dX6_weightOf_108 : decode cX6_weightOf 108 = .ok (.istore_n 3, 1) := by decide +kernel
theorem dX6_weightOf_109 : decode cX6_weightOf 109 = .ok (.iinc 4 1, 3) := by decide +kernel
theorem dX6_weightOf_112 : decode cX6_weightOf 112 = .ok (.goto (-107), 3) := by decide +kernel
theorem dX6_weightOf_115 : decode cX6_weightOf 115 = .ok (.iload_n 3, 1) := by decide +kernel
theorem dX6_weightOf_116 : decode cX6_weightOf 116 = .ok (.ireturn, 1) := by decide +kernel
theorem dX6_weight_0 : decode cX6_weight 0 = .ok (.aload_n 0, 1) := by decide +kernel
theorem dX6_weight_1 : decode cX6_weight 1 = .ok (.iload_n 1, 1) := by decide +kernel
theorem dX6_weight_2 : decode cX6_weight 2 = .ok (.invokevirtual 145, 3) := by decide +kernel
theorem dX6_weight_5 : decode cX6_weight 5 = .ok (.ifCond .eq 22, 3) := by decide +kernel
theorem dX6_weight_8 : decode cX6_weight 8 = .ok (.iload_n 2, 1) := by decide +kernel
theorem dX6_weight_9 : decode cX6_weight 9 = .ok (.iconst 0, 1) := by decide +kernel
theorem dX6_weight_10 : decode cX6_weight 10 = .ok (.bipush 15, 2) := by decide +kernel
theorem dX6_weight_12 : decode cX6_weight 12 = .ok (.invokestatic 84, 3) := by decide +kernel
theorem dX6_weight_15 : decode cX6_weight 15 = .ok (.ifCond .eq 12, 3) := by decide +kernel
theorem dX6_weight_18 : decode cX6_weight 18 = .ok (.aload_n 0, 1) := by decide +kernel
theorem dX6_weight_19 : decode cX6_weight 19 = .ok (.iload_n 1, 1) := by decide +kernel
theorem dX6_weight_20 : decode cX6_weight 20 = .ok (.iload_n 2, 1) := by decide +kernel
theorem dX6_weight_21 : decode cX6_weight 21 = .ok (.invokevirtual 172, 3) := by decide +kernel
theorem dX6_weight_24 : decode cX6_weight 24 = .ok (.goto 4, 3) := by decide +kernel
theorem dX6_weight_27 : decode cX6_weight 27 = .ok (.iconst (-1), 1) := by decide +kernel
theorem dX6_weight_28 : decode cX6_weight 28 = .ok (.ireturn, 1) := by decide +kernel
theorem dX6_guilty_0 : decode cX6_guilty 0 = .ok (.aload_n 0, 1) := by decide +kernel
theorem dX6_guilty_1 : decode cX6_guilty 1 = .ok (.iload_n 1, 1) := by decide +kernel
theorem dX6_guilty_2 : decode cX6_guilty 2 = .ok (.invokevirtual 145, 3) := by decide +kernel
theorem dX6_guilty_5 : decode cX6_guilty 5 = .ok (.ifCond .ne 5, 3) := by decide +kernel
theorem dX6_guilty_8 : decode cX6_guilty 8 = .ok (.iconst (-1), 1) := by decide +kernel
theorem dX6_guilty_9 : decode cX6_guilty 9 = .ok (.ireturn, 1) := by decide +kernel
theorem dX6_guilty_10 : decode cX6_guilty 10 = .ok (.iconst (-1), 1) := by decide +kernel
theorem dX6_guilty_11 : decode cX6_guilty 11 = .ok (.istore_n 2, 1) := by decide +kernel
theorem dX6_guilty_12 : decode cX6_guilty 12 = .ok (.iconst 0, 1) := by decide +kernel
theorem dX6_guilty_13 : decode cX6_guilty 13 = .ok (.istore_n 3, 1) := by decide +kernel
theorem dX6_guilty_14 : decode cX6_guilty 14 = .ok (.iconst 0, 1) := by decide +kernel
theorem dX6_guilty_15 : decode cX6_guilty 15 = .ok (.istore 4, 2) := by decide +kernel
theorem dX6_guilty_17 : decode cX6_guilty 17 = .ok (.iload 4, 2) := by decide +kernel
theorem dX6_guilty_19 : decode cX6_guilty 19 = .ok (.bipush 16, 2) := by decide +kernel
theorem dX6_guilty_21 : decode cX6_guilty 21 = .ok (.if_icmp .ge 33, 3) := by decide +kernel
theorem dX6_guilty_24 : decode cX6_guilty 24 = .ok (.aload_n 0, 1) := by decide +kernel
theorem dX6_guilty_25 : decode cX6_guilty 25 = .ok (.iload_n 1, 1) := by decide +kernel
theorem dX6_guilty_26 : decode cX6_guilty 26 = .ok (.iload 4, 2) := by decide +kernel
theorem dX6_guilty_28 : decode cX6_guilty 28 = .ok (.invokevirtual 172, 3) := by decide +kernel
theorem dX6_guilty_31 : decode cX6_guilty 31 = .ok (.istore 5, 2) := by decide +kernel
theorem dX6_guilty_33 : decode cX6_guilty 33 = .ok (.iload 5, 2) := by decide +kernel
theorem dX6_guilty_35 : decode cX6_guilty 35 = .ok (.iload_n 3, 1) := by decide +kernel
theorem dX6_guilty_36 : decode cX6_guilty 36 = .ok (.if_icmp .gt 6, 3) := by decide +kernel
theorem dX6_guilty_39 : decode cX6_guilty 39 = .ok (.goto 9, 3) := by decide +kernel
theorem dX6_guilty_42 : decode cX6_guilty 42 = .ok (.iload 5, 2) := by decide +kernel
theorem dX6_guilty_44 : decode cX6_guilty 44 = .ok (.istore_n 3, 1) := by decide +kernel
theorem dX6_guilty_45 : decode cX6_guilty 45 = .ok (.iload 4, 2) := by decide +kernel
theorem dX6_guilty_47 : decode cX6_guilty 47 = .ok (.istore_n 2, 1) := by decide +kernel
theorem dX6_guilty_48 : decode cX6_guilty 48 = .ok (.iinc 4 1, 3) := by decide +kernel
theorem dX6_guilty_51 : decode cX6_guilty 51 = .ok (.goto (-34), 3) := by decide +kernel
theorem dX6_guilty_54 : decode cX6_guilty 54 = .ok (.iload_n 2, 1) := by decide +kernel
theorem dX6_guilty_55 : decode cX6_guilty 55 = .ok (.ireturn, 1) := by decide +kernel
theorem dX6_areAlike_0 : decode cX6_areAlike 0 = .ok (.aload_n 0, 1) := by decide +kernel
theorem dX6_areAlike_1 : decode cX6_areAlike 1 = .ok (.getfield 31, 3) := by decide +kernel
theorem dX6_areAlike_4 : decode cX6_areAlike 4 = .ok (.iload_n 1, 1) := by decide +kernel
theorem dX6_areAlike_5 : decode cX6_areAlike 5 = .ok (.iaload, 1) := by decide +kernel
theorem dX6_areAlike_6 : decode cX6_areAlike 6 = .ok (.aload_n 0, 1) := by decide +kernel
theorem dX6_areAlike_7 : decode cX6_areAlike 7 = .ok (.getfield 31, 3) := by decide +kernel
theorem dX6_areAlike_10 : decode cX6_areAlike 10 = .ok (.iload_n 2, 1) := by decide +kernel
theorem dX6_areAlike_11 : decode cX6_areAlike 11 = .ok (.iaload, 1) := by decide +kernel
theorem dX6_areAlike_12 : decode cX6_areAlike 12 = .ok (.if_icmp .ne 63, 3) := by decide +kernel
theorem dX6_areAlike_15 : decode cX6_areAlike 15 = .ok (.aload_n 0, 1) := by decide +kernel
theorem dX6_areAlike_16 : decode cX6_areAlike 16 = .ok (.getfield 34, 3) := by decide +kernel
theorem dX6_areAlike_19 : decode cX6_areAlike 19 = .ok (.iload_n 1, 1) := by decide +kernel
theorem dX6_areAlike_20 : decode cX6_areAlike 20 = .ok (.iaload, 1) := by decide +kernel
theorem dX6_areAlike_21 : decode cX6_areAlike 21 = .ok (.aload_n 0, 1) := by decide +kernel
theorem dX6_areAlike_22 : decode cX6_areAlike 22 = .ok (.getfield 34, 3) := by decide +kernel
theorem dX6_areAlike_25 : decode cX6_areAlike 25 = .ok (.iload_n 2, 1) := by decide +kernel
theorem dX6_areAlike_26 : decode cX6_areAlike 26 = .ok (.iaload, 1) := by decide +kernel
theorem dX6_areAlike_27 : decode cX6_areAlike 27 = .ok (.if_icmp .ne 48, 3) := by decide +kernel
theorem dX6_areAlike_30 : decode cX6_areAlike 30 = .ok (.aload_n 0, 1) := by decide +kernel
theorem dX6_areAlike_31 : decode cX6_areAlike 31 = .ok (.getfield 37, 3) := by decide +kernel
theorem dX6_areAlike_34 : decode cX6_areAlike 34 = .ok (.iload_n 1, 1) := by decide +kernel
theorem dX6_areAlike_35 : decode cX6_areAlike 35 = .ok (.iaload, 1) := by decide +kernel
theorem dX6_areAlike_36 : decode cX6_areAlike 36 = .ok (.aload_n 0, 1) := by decide +kernel
theorem dX6_areAlike_37 : decode cX6_areAlike 37 = .ok (.getfield 37, 3) := by decide +kernel
theorem dX6_areAlike_40 : decode cX6_areAlike 40 = .ok (.iload_n 2, 1) := by decide +kernel
theorem dX6_areAlike_41 : decode cX6_areAlike 41 = .ok (.iaload, 1) := by decide +kernel
theorem dX6_areAlike_42 : decode cX6_areAlike 42 = .ok (.if_icmp .ne 33, 3) := by decide +kernel
theorem dX6_areAlike_45 : decode cX6_areAlike 45 = .ok (.aload_n 0, 1) := by decide +kernel
theorem dX6_areAlike_46 : decode cX6_areAlike 46 = .ok (.getfield 40, 3) := by decide +kernel
theorem dX6_areAlike_49 : decode cX6_areAlike 49 = .ok (.iload_n 1, 1) := by decide +kernel
theorem dX6_areAlike_50 : decode cX6_areAlike 50 = .ok (.iaload, 1) := by decide +kernel
theorem dX6_areAlike_51 : decode cX6_areAlike 51 = .ok (.aload_n 0, 1) := by decide +kernel
theorem dX6_areAlike_52 : decode cX6_areAlike 52 = .ok (.getfield 40, 3) := by decide +kernel
theorem dX6_areAlike_55 : decode cX6_areAlike 55 = .ok (.iload_n 2, 1) := by decide +kernel
theorem dX6_areAlike_56 : decode cX6_areAlike 56 = .ok (.iaload, 1) := by decide +kernel
theorem dX6_areAlike_57 : decode cX6_areAlike 57 = .ok (.if_icmp .ne 18, 3) := by decide +kernel
theorem dX6_areAlike_60 : decode cX6_areAlike 60 = .ok (.aload_n 0, 1) := by decide +kernel
theorem dX6_areAlike_61 : decode cX6_areAlike 61 = .ok (.getfield 43, 3) := by decide +kernel
theorem dX6_areAlike_64 : decode cX6_areAlike 64 = .ok (.iload_n 1, 1) := by decide +kernel
theorem dX6_areAlike_65 : decode cX6_areAlike 65 = .ok (.iaload, 1) := by decide +kernel
theorem dX6_areAlike_66 : decode cX6_areAlike 66 = .ok (.aload_n 0, 1) := by decide +kernel
theorem dX6_areAlike_67 : decode cX6_areAlike 67 = .ok (.getfield 43, 3) := by decide +kernel
theorem dX6_areAlike_70 : decode cX6_areAlike 70 = .ok (.iload_n 2, 1) := by decide +kernel
theorem dX6_areAlike_71 : decode cX6_areAlike 71 = .ok (.iaload, 1) := by decide +kernel
theorem dX6_areAlike_72 : decode cX6_areAlike 72 = .ok (.if_icmp .eq 5, 3) := by decide +kernel
theorem dX6_areAlike_75 : decode cX6_areAlike 75 = .ok (.iconst 0, 1) := by decide +kernel
theorem dX6_areAlike_76 : decode cX6_areAlike 76 = .ok (.ireturn, 1) := by decide +kernel
theorem dX6_areAlike_77 : decode cX6_areAlike 77 = .ok (.iconst 0, 1) := by decide +kernel
theorem dX6_areAlike_78 : decode cX6_areAlike 78 = .ok (.istore_n 3, 1) := by decide +kernel
theorem dX6_areAlike_79 : decode cX6_areAlike 79 = .ok (.iload_n 3, 1) := by decide +kernel
theorem dX6_areAlike_80 : decode cX6_areAlike 80 = .ok (.aload_n 0, 1) := by decide +kernel
theorem dX6_areAlike_81 : decode cX6_areAlike 81 = .ok (.getfield 43, 3) := by decide +kernel
theorem dX6_areAlike_84 : decode cX6_areAlike 84 = .ok (.iload_n 1, 1) := by decide +kernel
theorem dX6_areAlike_85 : decode cX6_areAlike 85 = .ok (.iaload, 1) := by decide +kernel
theorem dX6_areAlike_86 : decode cX6_areAlike 86 = .ok (.if_icmp .ge 36, 3) := by decide +kernel
theorem dX6_areAlike_89 : decode cX6_areAlike 89 = .ok (.aload_n 0, 1) := by decide +kernel
theorem dX6_areAlike_90 : decode cX6_areAlike 90 = .ok (.getfield 46, 3) := by decide +kernel
theorem dX6_areAlike_93 : decode cX6_areAlike 93 = .ok (.bipush 12, 2) := by decide +kernel
theorem dX6_areAlike_95 : decode cX6_areAlike 95 = .ok (.iload_n 1, 1) := by decide +kernel
theorem dX6_areAlike_96 : decode cX6_areAlike 96 = .ok (.imul, 1) := by decide +kernel
theorem dX6_areAlike_97 : decode cX6_areAlike 97 = .ok (.iload_n 3, 1) := by decide +kernel
theorem dX6_areAlike_98 : decode cX6_areAlike 98 = .ok (.iadd, 1) := by decide +kernel
