theorem dX0_init_0 : decode cX0_init 0 = .ok (.aload_n 0, 1) := by decide +kernel
theorem dX0_init_1 : decode cX0_init 1 = .ok (.invokespecial 3, 3) := by decide +kernel
theorem dX0_init_4 : decode cX0_init 4 = .ok (.aload_n 0, 1) := by decide +kernel
theorem dX0_init_5 : decode cX0_init 5 = .ok (.bipush 16, 2) := by decide +kernel
theorem dX0_init_7 : decode cX0_init 7 = .ok (.newarray .int, 2) := by decide +kernel
theorem dX0_init_9 : decode cX0_init 9 = .ok (.putfield 9, 3) := by decide +kernel
theorem dX0_init_12 : decode cX0_init 12 = .ok (.aload_n 0, 1) := by decide +kernel
theorem dX0_init_13 : decode cX0_init 13 = .ok (.bipush 16, 2) := by decide +kernel
theorem dX0_init_15 : decode cX0_init 15 = .ok (.newarray .int, 2) := by decide +kernel
theorem dX0_init_17 : decode cX0_init 17 = .ok (.putfield 15, 3) := by decide +kernel
theorem dX0_init_20 : decode cX0_init 20 = .ok (.aload_n 0, 1) := by decide +kernel
theorem dX0_init_21 : decode cX0_init 21 = .ok (.bipush 16, 2) := by decide +kernel
theorem dX0_init_23 : decode cX0_init 23 = .ok (.newarray .int, 2) := by decide +kernel
theorem dX0_init_25 : decode cX0_init 25 = .ok (.putfield 18, 3) := by decide +kernel
theorem dX0_init_28 : decode cX0_init 28 = .ok (.return_, 1) := by decide +kernel
theorem dX0_learn_0 : decode cX0_learn 0 = .ok (.aload_n 1, 1) := by decide +kernel
theorem dX0_learn_1 : decode cX0_learn 1 = .ok (.getfield 21, 3) := by decide +kernel
theorem dX0_learn_4 : decode cX0_learn 4 = .ok (.astore_n 2, 1) := by decide +kernel
theorem dX0_learn_5 : decode cX0_learn 5 = .ok (.aload_n 2, 1) := by decide +kernel
theorem dX0_learn_6 : decode cX0_learn 6 = .ok (.arraylength, 1) := by decide +kernel
theorem dX0_learn_7 : decode cX0_learn 7 = .ok (.istore_n 3, 1) := by decide +kernel
theorem dX0_learn_8 : decode cX0_learn 8 = .ok (.iconst 0, 1) := by decide +kernel
theorem dX0_learn_9 : decode cX0_learn 9 = .ok (.istore 4, 2) := by decide +kernel
theorem dX0_learn_11 : decode cX0_learn 11 = .ok (.iload 4, 2) := by decide +kernel
theorem dX0_learn_13 : decode cX0_learn 13 = .ok (.iload_n 3, 1) := by decide +kernel
theorem dX0_learn_14 : decode cX0_learn 14 = .ok (.if_icmp .ge 34, 3) := by decide +kernel
theorem dX0_learn_17 : decode cX0_learn 17 = .ok (.aload_n 2, 1) := by decide +kernel
theorem dX0_learn_18 : decode cX0_learn 18 = .ok (.iload 4, 2) := by decide +kernel
theorem dX0_learn_20 : decode cX0_learn 20 = .ok (.aaload, 1) := by decide +kernel
theorem dX0_learn_21 : decode cX0_learn 21 = .ok (.astore 5, 2) := by decide +kernel
theorem dX0_learn_23 : decode cX0_learn 23 = .ok (.aload 5, 2) := by decide +kernel
theorem dX0_learn_25 : decode cX0_learn 25 = .ok (.ifnull 17, 3) := by decide +kernel
theorem dX0_learn_28 : decode cX0_learn 28 = .ok (.aload 5, 2) := by decide +kernel
theorem dX0_learn_30 : decode cX0_learn 30 = .ok (.invokevirtual 27, 3) := by decide +kernel
theorem dX0_learn_33 : decode cX0_learn 33 = .ok (.ifCond .eq 9, 3) := by decide +kernel
theorem dX0_learn_36 : decode cX0_learn 36 = .ok (.aload_n 0, 1) := by decide +kernel
theorem dX0_learn_37 : decode cX0_learn 37 = .ok (.aload 5, 2) := by decide +kernel
theorem dX0_learn_39 : decode cX0_learn 39 = .ok (.invokevirtual 33, 3) := by decide +kernel
theorem dX0_learn_42 : decode cX0_learn 42 = .ok (.iinc 4 1, 3) := by decide +kernel
theorem dX0_learn_45 : decode cX0_learn 45 = .ok (.goto (-34), 3) := by decide +kernel
theorem dX0_learn_48 : decode cX0_learn 48 = .ok (.aload_n 0, 1) := by decide +kernel
theorem dX0_learn_49 : decode cX0_learn 49 = .ok (.invokevirtual 37, 3) := by decide +kernel
theorem dX0_learn_52 : decode cX0_learn 52 = .ok (.return_, 1) := by decide +kernel
theorem dX0_lockOfRing_0 : decode cX0_lockOfRing 0 = .ok (.iload_n 1, 1) := by decide +kernel
theorem dX0_lockOfRing_1 : decode cX0_lockOfRing 1 = .ok (.ifCond .lt 11, 3) := by decide +kernel
theorem dX0_lockOfRing_4 : decode cX0_lockOfRing 4 = .ok (.iload_n 1, 1) := by decide +kernel
theorem dX0_lockOfRing_5 : decode cX0_lockOfRing 5 = .ok (.aload_n 0, 1) := by decide +kernel
theorem dX0_lockOfRing_6 : decode cX0_lockOfRing 6 = .ok (.getfield 40, 3) := by decide +kernel
theorem dX0_lockOfRing_9 : decode cX0_lockOfRing 9 = .ok (.if_icmp .lt 7, 3) := by decide +kernel
theorem dX0_lockOfRing_12 : decode cX0_lockOfRing 12 = .ok (.iconst (-1), 1) := by decide +kernel
theorem dX0_lockOfRing_13 : decode cX0_lockOfRing 13 = .ok (.goto 9, 3) := by decide +kernel
theorem dX0_lockOfRing_16 : decode cX0_lockOfRing 16 = .ok (.aload_n 0, 1) := by decide +kernel
theorem dX0_lockOfRing_17 : decode cX0_lockOfRing 17 = .ok (.getfield 18, 3) := by decide +kernel
theorem dX0_lockOfRing_20 : decode cX0_lockOfRing 20 = .ok (.iload_n 1, 1) := by decide +kernel
theorem dX0_lockOfRing_21 : decode cX0_lockOfRing 21 = .ok (.iaload, 1) := by decide +kernel
theorem dX0_lockOfRing_22 : decode cX0_lockOfRing 22 = .ok (.ireturn, 1) := by decide +kernel
theorem dX0_learnRow_0 : decode cX0_learnRow 0 = .ok (.iconst 0, 1) := by decide +kernel
theorem dX0_learnRow_1 : decode cX0_learnRow 1 = .ok (.istore_n 2, 1) := by decide +kernel
theorem dX0_learnRow_2 : decode cX0_learnRow 2 = .ok (.iload_n 2, 1) := by decide +kernel
theorem dX0_learnRow_3 : decode cX0_learnRow 3 = .ok (.bipush 16, 2) := by decide +kernel
theorem dX0_learnRow_5 : decode cX0_learnRow 5 = .ok (.if_icmp .ge 40, 3) := by decide +kernel
theorem dX0_learnRow_8 : decode cX0_learnRow 8 = .ok (.aload_n 1, 1) := by decide +kernel
theorem dX0_learnRow_9 : decode cX0_learnRow 9 = .ok (.iload_n 2, 1) := by decide +kernel
theorem dX0_learnRow_10 : decode cX0_learnRow 10 = .ok (.invokevirtual 44, 3) := by decide +kernel
theorem dX0_learnRow_13 : decode cX0_learnRow 13 = .ok (.ifCond .eq 26, 3) := by decide +kernel
theorem dX0_learnRow_16 : decode cX0_learnRow 16 = .ok (.iload_n 2, 1) := by decide +kernel
theorem dX0_learnRow_17 : decode cX0_learnRow 17 = .ok (.aload_n 1, 1) := by decide +kernel
theorem dX0_learnRow_18 : decode cX0_learnRow 18 = .ok (.getfield 48, 3) := by decide +kernel
theorem dX0_learnRow_21 : decode cX0_learnRow 21 = .ok (.if_icmp .eq 18, 3) := by decide +kernel
theorem dX0_learnRow_24 : decode cX0_learnRow 24 = .ok (.aload_n 0, 1) := by decide +kernel
theorem dX0_learnRow_25 : decode cX0_learnRow 25 = .ok (.getfield 9, 3) := by decide +kernel
theorem dX0_learnRow_28 : decode cX0_learnRow 28 = .ok (.iload_n 2, 1) := by decide +kernel
theorem dX0_learnRow_29 : decode cX0_learnRow 29 = .ok (.dup2, 1) := by decide +kernel
theorem dX0_learnRow_30 : decode cX0_learnRow 30 = .ok (.iaload, 1) := by decide +kernel
theorem dX0_learnRow_31 : decode cX0_learnRow 31 = .ok (.iconst 1, 1) := by decide +kernel
theorem dX0_learnRow_32 : decode cX0_learnRow 32 = .ok (.aload_n 1, 1) := by decide +kernel
theorem dX0_learnRow_33 : decode cX0_learnRow 33 = .ok (.getfield 48, 3) := by decide +kernel
theorem dX0_learnRow_36 : decode cX0_learnRow 36 = .ok (.ishl, 1) := by decide +kernel
theorem dX0_learnRow_37 : decode cX0_learnRow 37 = .ok (.ior, 1) := by decide +kernel
theorem dX0_learnRow_38 : decode cX0_learnRow 38 = .ok (.iastore, 1) := by decide +kernel
theorem dX0_learnRow_39 : decode cX0_learnRow 39 = .ok (.iinc 2 1, 3) := by decide +kernel
theorem dX0_learnRow_42 : decode cX0_learnRow 42 = .ok (.goto (-40), 3) := by decide +kernel
theorem dX0_learnRow_45 : decode cX0_learnRow 45 = .ok (.return_, 1) := by decide +kernel
theorem dX0_findRing_0 : decode cX0_findRing 0 = .ok (.aload_n 0, 1) := by decide +kernel
theorem dX0_findRing_1 : decode cX0_findRing 1 = .ok (.iconst 0, 1) := by decide +kernel
theorem dX0_findRing_2 : decode cX0_findRing 2 = .ok (.putfield 40, 3) := by decide +kernel
theorem dX0_findRing_5 : decode cX0_findRing 5 = .ok (.iconst 0, 1) := by decide +kernel
theorem dX0_findRing_6 : decode cX0_findRing 6 = .ok (.istore_n 1, 1) := by decide +kernel
theorem dX0_findRing_7 : decode cX0_findRing 7 = .ok (.iload_n 1, 1) := by decide +kernel
theorem dX0_findRing_8 : decode cX0_findRing 8 = .ok (.bipush 16, 2) := by decide +kernel
theorem dX0_findRing_10 : decode cX0_findRing 10 = .ok (.if_icmp .ge 47, 3) := by decide +kernel
theorem dX0_findRing_13 : decode cX0_findRing 13 = .ok (.aload_n 0, 1) := by decide +kernel
theorem dX0_findRing_14 : decode cX0_findRing 14 = .ok (.iload_n 1, 1) := by decide +kernel
theorem dX0_findRing_15 : decode cX0_findRing 15 = .ok (.invokevirtual 51, 3) := by decide +kernel
theorem dX0_findRing_18 : decode cX0_findRing 18 = .ok (.aload_n 0, 1) := by decide +kernel
theorem dX0_findRing_19 : decode cX0_findRing 19 = .ok (.iload_n 1, 1) := by decide +kernel
theorem dX0_findRing_20 : decode cX0_findRing 20 = .ok (.invokevirtual 55, 3) := by decide +kernel
theorem dX0_findRing_23 : decode cX0_findRing 23 = .ok (.istore_n 2, 1) := by decide +kernel
theorem dX0_findRing_24 : decode cX0_findRing 24 = .ok (.iload_n 2, 1) := by decide +kernel
theorem dX0_findRing_25 : decode cX0_findRing 25 = .ok (.bipush 16, 2) := by decide +kernel
theorem dX0_findRing_27 : decode cX0_findRing 27 = .ok (.if_icmp .gt 24, 3) := by decide +kernel
theorem dX0_findRing_30 : decode cX0_findRing 30 = .ok (.aload_n 0, 1) := by decide +kernel
theorem dX0_findRing_31 : decode cX0_findRing 31 = .ok (.getfield 40, 3) := by decide +kernel
theorem dX0_findRing_34 : decode cX0_findRing 34 = .ok (.ifCond .eq 11, 3) := by decide +kernel
theorem dX0_findRing_37 : decode cX0_findRing 37 = .ok (.iload_n 2, 1) := by decide +kernel
theorem dX0_findRing_38 : decode cX0_findRing 38 = .ok (.aload_n 0, 1) := by decide +kernel
theorem dX0_findRing_39 : decode cX0_findRing 39 = .ok (.getfield 40, 3) := by decide +kernel
theorem dX0_findRing_42 : decode cX0_findRing 42 = .ok (.if_icmp .ge 9, 3) := by decide +kernel
theorem dX0_findRing_45 : decode cX0_findRing 45 = .ok (.aload_n 0, 1) := by decide +kernel
theorem dX0_findRing_46 : decode cX0_findRing 46 = .ok (.iload_n 1, 1) := by decide +kernel
theorem dX0_findRing_47 : decode cX0_findRing 47 = .ok (.iload_n 2, 1) := by decide +kernel
theorem dX0_findRing_48 : decode cX0_findRing 48 = .ok (.invokevirtual 59, 3) := by decide +kernel
theorem dX0_findRing_51 : decode cX0_findRing 51 = .ok (.iinc 1 1, 3) := by decide +kernel
theorem dX0_findRing_54 : decode cX0_findRing 54 = .ok (.goto (-47), 3) := by decide +kernel
theorem dX0_findRing_57 : decode cX0_findRing 57 = .ok (.return_, 1) := by decide +kernel
theorem dX0_measureWaysBack_0 : decode cX0_measureWaysBack 0 = .ok (.iconst 0, 1) := by decide +kernel
theorem dX0_measureWaysBack_1 : decode cX0_measureWaysBack 1 = .ok (.istore_n 2, 1) := by decide +kernel
theorem dX0_measureWaysBack_2 : decode cX0_measureWaysBack 2 = .ok (.iload_n 2, 1) := by decide +kernel
theorem dX0_measureWaysBack_3 : decode cX0_measureWaysBack 3 = .ok (.bipush 16, 2) := by decide +kernel
theorem dX0_measureWaysBack_5 : decode cX0_measureWaysBack 5 = .ok (.if_icmp .ge 17, 3) := by decide +kernel
theorem dX0_measureWaysBack_8 : decode cX0_measureWaysBack 8 = .ok (.aload_n 0, 1) := by decide +kernel
theorem dX0_measureWaysBack_9 : decode cX0_measureWaysBack 9 = .ok (.getfield 15, 3) := by decide +kernel
theorem dX0_measureWaysBack_12 : decode cX0_measureWaysBack 12 = .ok (.iload_n 2, 1) := by decide +kernel
theorem dX0_measureWaysBack_13 : decode cX0_measureWaysBack 13 = .ok (.bipush 16, 2) := by decide +kernel
theorem dX0_measureWaysBack_15 : decode cX0_measureWaysBack 15 = .ok (.iastore, 1) := by decide +kernel
theorem dX0_measureWaysBack_16 : decode cX0_measureWaysBack 16 = .ok (.iinc 2 1, 3) := by decide +kernel
theorem dX0_measureWaysBack_19 : decode cX0_measureWaysBack 19 = .ok (.goto (-17), 3) := by decide +kernel
theorem dX0_measureWaysBack_22 : decode cX0_measureWaysBack 22 = .ok (.aload_n 0, 1) := by decide +kernel
theorem dX0_measureWaysBack_23 : decode cX0_measureWaysBack 23 = .ok (.getfield 15, 3) := by decide +kernel
theorem dX0_measureWaysBack_26 : decode cX0_measureWaysBack 26 = .ok (.iload_n 1, 1) := by decide +kernel
theorem dX0_measureWaysBack_27 : decode cX0_measureWaysBack 27 = .ok (.iconst 0, 1) := by decide +kernel
theorem dX0_measureWaysBack_28 : decode cX0_measureWaysBack 28 = .ok (.iastore, 1) := by decide +kernel
theorem dX0_measureWaysBack_29 : decode cX0_measureWaysBack 29 = .ok (.iconst 1, 1) := by decide +kernel
theorem dX0_measureWaysBack_30 : decode cX0_measureWaysBack 30 = .ok (.iload_n 1, 1) := by decide +kernel
theorem dX0_measureWaysBack_31 : decode cX0_measureWaysBack 31 = .ok (.ishl, 1) := by decide +kernel
theorem dX0_measureWaysBack_32 : decode cX0_measureWaysBack 32 = .ok (.istore_n 2, 1) := by decide +kernel
theorem dX0_measureWaysBack_33 : decode cX0_measureWaysBack 33 = .ok (.iconst 1, 1) := by decide +kernel
theorem dX0_measureWaysBack_34 : decode cX0_measureWaysBack 34 = .ok (.istore_n 3, 1) := by decide +kernel
theorem dX0_measureWaysBack_35 : decode cX0_measureWaysBack 35 = .ok (.iload_n 3, 1) := by decide +kernel
theorem dX0_measureWaysBack_36 : decode cX0_measureWaysBack 36 = .ok (.bipush 16, 2) := by decide +kernel
theorem dX0_measureWaysBack_38 : decode cX0_measureWaysBack 38 = .ok (.if_icmp .ge 21, 3) := by decide +kernel
theorem dX0_measureWaysBack_41 : decode cX0_measureWaysBack 41 = .ok (.iload_n 2, 1) := by decide +kernel
theorem dX0_measureWaysBack_42 : decode cX0_measureWaysBack 42 = .ok (.ifCond .eq 17, 3) := by decide +kernel
theorem dX0_measureWaysBack_45 : decode cX0_measureWaysBack 45 = .ok (.aload_n 0, 1) := by decide +kernel
theorem dX0_measureWaysBack_46 : decode cX0_measureWaysBack 46 = .ok (.iload_n 1, 1) := by decide +kernel
theorem dX0_measureWaysBack_47 : decode cX0_measureWaysBack 47 = .ok (.iload_n 2, 1) := by decide +kernel
theorem dX0_measureWaysBack_48 : decode cX0_measureWaysBack 48 = .ok (.iload_n 3, 1) := by decide +kernel
theorem dX0_measureWaysBack_49 : decode cX0_measureWaysBack 49 = .ok (.invokevirtual 63, 3) := by decide +kernel
theorem dX0_measureWaysBack_52 : decode cX0_measureWaysBack 52 = .ok (.istore_n 2, 1) := by decide +kernel
theorem dX0_measureWaysBack_53 : decode cX0_measureWaysBack 53 = .ok (.iinc 3 1, 3) := by decide +kernel
theorem dX0_measureWaysBack_56 : decode cX0_measureWaysBack 56 = .ok (.goto (-21), 3) := by decide +kernel
theorem dX0_measureWaysBack_59 : decode cX0_measureWaysBack 59 = .ok (.return_, 1) := by decide +kernel
theorem dX0_stepBack_0 : decode cX0_stepBack 0 = .ok (.iconst 0, 1) := by decide +kernel
theorem dX0_stepBack_1 : decode cX0_stepBack 1 = .ok (.istore 4, 2) := by decide +kernel
theorem dX0_stepBack_3 : decode cX0_stepBack 3 = .ok (.iload_n 1, 1) := by decide +kernel
theorem dX0_stepBack_4 : decode cX0_stepBack 4 = .ok (.iconst 1, 1) := by decide +kernel
theorem dX0_stepBack_5 : decode cX0_stepBack 5 = .ok (.iadd, 1) := by decide +kernel
theorem dX0_stepBack_6 : decode cX0_stepBack 6 = .ok (.istore 5, 2) := by decide +kernel
theorem dX0_stepBack_8 : decode cX0_stepBack 8 = .ok (.iload 5, 2) := by decide +kernel
theorem dX0_stepBack_10 : decode cX0_stepBack 10 = .ok (.bipush 16, 2) := by decide +kernel
theorem dX0_stepBack_12 : decode cX0_stepBack 12 = .ok (.if_icmp .ge 50, 3) := by decide +kernel
theorem dX0_stepBack_15 : decode cX0_stepBack 15 = .ok (.aload_n 0, 1) := by decide +kernel
theorem dX0_stepBack_16 : decode cX0_stepBack 16 = .ok (.getfield 15, 3) := by decide +kernel
theorem dX0_stepBack_19 : decode cX0_stepBack 19 = .ok (.iload 5, 2) := by decide +kernel
theorem dX0_stepBack_21 : decode cX0_stepBack 21 = .ok (.iaload, 1) := by decide +kernel
theorem dX0_stepBack_22 : decode cX0_stepBack 22 = .ok (.bipush 16, 2) := by decide +kernel
theorem dX0_stepBack_24 : decode cX0_stepBack 24 = .ok (.if_icmp .ne 32, 3) := by decide +kernel
theorem dX0_stepBack_27 : decode cX0_stepBack 27 = .ok (.aload_n 0, 1) := by decide +kernel
theorem dX0_stepBack_28 : decode cX0_stepBack 28 = .ok (.getfield 9, 3) := by decide +kernel
theorem dX0_stepBack_31 : decode cX0_stepBack 31 = .ok (.iload 5, 2) := by decide +kernel
theorem dX0_stepBack_33 : decode cX0_stepBack 33 = .ok (.iaload, 1) := by decide +kernel
theorem dX0_stepBack_34 : decode cX0_stepBack 34 = .ok (.iload_n 2, 1) := by decide +kernel
theorem dX0_stepBack_35 : decode cX0_stepBack 35 = .ok (.iand, 1) := by decide +kernel
theorem dX0_stepBack_36 : decode cX0_stepBack 36 = .ok (.ifCond .eq 20, 3) := by decide +kernel
theorem dX0_stepBack_39 : decode cX0_stepBack 39 = .ok (.aload_n 0, 1) := by decide +kernel
theorem dX0_stepBack_40 : decode cX0_stepBack 40 = .ok (.getfield 15, 3) := by decide +kernel
theorem dX0_stepBack_43 : decode cX0_stepBack 43 = .ok (.iload 5, 2) := by decide +kernel
theorem dX0_stepBack_45 : decode cX0_stepBack 45 = .ok (.iload_n 3, 1) := by decide +kernel
theorem dX0_stepBack_46 : decode cX0_stepBack 46 = .ok (.iastore, 1) := by decide +kernel
theorem dX0_stepBack_47 : decode cX0_stepBack 47 = .ok (.iload 4, 2) := by decide +kernel
theorem dX0_stepBack_49 : decode cX0_stepBack 49 = .ok (.iconst 1, 1) := by decide +kernel
theorem dX0_stepBack_50 : decode cX0_stepBack 50 = .ok (.iload 5, 2) := by decide +kernel
theorem dX0_stepBack_52 : decode cX0_stepBack 52 = .ok (.ishl, 1) := by decide +kernel
theorem dX0_stepBack_53 : decode cX0_stepBack 53 = .ok (.ior, 1) := by decide +kernel
theorem dX0_stepBack_54 : decode cX0_stepBack 54 = .ok (.istore 4, 2) := by decide +kernel
theorem dX0_stepBack_56 : decode cX0_stepBack 56 = .ok (.iinc 5 1, 3) := by decide +kernel
theorem dX0_stepBack_59 : decode cX0_stepBack 59 = .ok (.goto (-51), 3) := by decide +kernel
theorem dX0_stepBack_62 : decode cX0_stepBack 62 = .ok (.iload 4, 2) := by decide +kernel
theorem dX0_stepBack_64 : decode cX0_stepBack 64 = .ok (.ireturn, 1) := by decide +kernel
theorem dX0_sizeOfRingFrom_0 : decode cX0_sizeOfRingFrom 0 = .ok (.bipush 16, 2) := by decide +kernel
theorem dX0_sizeOfRingFrom_2 : decode cX0_sizeOfRingFrom 2 = .ok (.istore_n 2, 1) := by decide +kernel
theorem dX0_sizeOfRingFrom_3 : decode cX0_sizeOfRingFrom 3 = .ok (.iload_n 1, 1) := by decide +kernel
theorem dX0_sizeOfRingFrom_4 : decode cX0_sizeOfRingFrom 4 = .ok (.iconst 1, 1) := by decide +kernel
theorem dX0_sizeOfRingFrom_5 : decode cX0_sizeOfRingFrom 5 = .ok (.iadd, 1) := by decide +kernel
theorem dX0_sizeOfRingFrom_6 : decode cX0_sizeOfRingFrom 6 = .ok (.istore_n 3, 1) := by decide +kernel
theorem dX0_sizeOfRingFrom_7 : decode cX0_sizeOfRingFrom 7 = .ok (.iload_n 3, 1) := by decide +kernel
theorem dX0_sizeOfRingFrom_8 : decode cX0_sizeOfRingFrom 8 = .ok (.bipush 16, 2) := by decide +kernel
theorem dX0_sizeOfRingFrom_10 : decode cX0_sizeOfRingFrom 10 = .ok (.if_icmp .ge 33, 3) := by decide +kernel
theorem dX0_sizeOfRingFrom_13 : decode cX0_sizeOfRingFrom 13 = .ok (.aload_n 0, 1) := by decide +kernel
theorem dX0_sizeOfRingFrom_14 : decode cX0_sizeOfRingFrom 14 = .ok (.getfield 9, 3) := by decide +kernel
theorem dX0_sizeOfRingFrom_17 : decode cX0_sizeOfRingFrom 17 = .ok (.iload_n 1, 1) := by decide +kernel
theorem dX0_sizeOfRingFrom_18 : decode cX0_sizeOfRingFrom 18 = .ok (.iaload, 1) := by decide +kernel
theorem dX0_sizeOfRingFrom_19 : decode cX0_sizeOfRingFrom 19 = .ok (.iload_n 3, 1) := by decide +kernel
theorem dX0_sizeOfRingFrom_20 : decode cX0_sizeOfRingFrom 20 = .ok (.invokestatic 67, 3) := by decide +kernel
theorem dX0_sizeOfRingFrom_23 : decode cX0_sizeOfRingFrom 23 = .ok (.ifCond .eq 14, 3) := by decide +kernel
theorem dX0_sizeOfRingFrom_26 : decode cX0_sizeOfRingFrom 26 = .ok (.iload_n 2, 1) := by decide +kernel
theorem dX0_sizeOfRingFrom_27 : decode cX0_sizeOfRingFrom 27 = .ok (.aload_n 0, 1) := by decide +kernel
theorem dX0_sizeOfRingFrom_28 : decode cX0_sizeOfRingFrom 28 = .ok (.getfield 15, 3) := by decide +kernel
theorem dX0_sizeOfRingFrom_31 : decode cX0_sizeOfRingFrom 31 = .ok (.iload_n 3, 1) := by decide +kernel
theorem dX0_sizeOfRingFrom_32 : decode cX0_sizeOfRingFrom 32 = .ok (.iaload, 1) := by decide +kernel
theorem dX0_sizeOfRingFrom_33 : decode cX0_sizeOfRingFrom 33 = .ok (.invokestatic 71, 3) := by decide +kernel
theorem dX0_sizeOfRingFrom_36 : decode cX0_sizeOfRingFrom 36 = .ok (.istore_n 2, 1) := by decide +kernel
theorem dX0_sizeOfRingFrom_37 : decode cX0_sizeOfRingFrom 37 = .ok (.iinc 3 1, 3) := by decide +kernel
theorem dX0_sizeOfRingFrom_40 : decode cX0_sizeOfRingFrom 40 = .ok (.goto (-33), 3) := by decide +kernel
theorem dX0_sizeOfRingFrom_43 : decode cX0_sizeOfRingFrom 43 = .ok (.iload_n 2, 1) := by decide +kernel
theorem dX0_sizeOfRingFrom_44 : decode cX0_sizeOfRingFrom 44 = .ok (.iconst 1, 1) := by decide +kernel
theorem dX0_sizeOfRingFrom_45 : decode cX0_sizeOfRingFrom 45 = .ok (.iadd, 1) := by decide +kernel
theorem dX0_sizeOfRingFrom_46 : decode cX0_sizeOfRingFrom 46 = .ok (.ireturn, 1) := by decide +kernel
theorem dX0_keepRing_0 : decode cX0_keepRing 0 = .ok (.iload_n 1, 1) := by decide +kernel
theorem dX0_keepRing_1 : decode cX0_keepRing 1 = .ok (.istore_n 3, 1) := by decide +kernel
theorem dX0_keepRing_2 : decode cX0_keepRing 2 = .ok (.aload_n 0, 1) := by decide +kernel
theorem dX0_keepRing_3 : decode cX0_keepRing 3 = .ok (.getfield 18, 3) := by decide +kernel
theorem dX0_keepRing_6 : decode cX0_keepRing 6 = .ok (.iconst 0, 1) := by decide +kernel
theorem dX0_keepRing_7 : decode cX0_keepRing 7 = .ok (.iload_n 1, 1) := by decide +kernel
theorem dX0_keepRing_8 : decode cX0_keepRing 8 = .ok (.iastore, 1) := by decide +kernel
theorem dX0_keepRing_9 : decode cX0_keepRing 9 = .ok (.iconst 1, 1) := by decide +kernel
theorem dX0_keepRing_10 : decode cX0_keepRing 10 = .ok (.istore 4, 2) := by decide +kernel
theorem dX0_keepRing_12 : decode cX0_keepRing 12 = .ok (.iload 4, 2) := by decide +kernel
theorem dX0_keepRing_14 : decode cX0_keepRing 14 = .ok (.iload_n 2, 1) := by decide +kernel
theorem dX0_keepRing_15 : decode cX0_keepRing 15 = .ok (.if_icmp .ge 27, 3) := by decide +kernel
theorem dX0_keepRing_18 : decode cX0_keepRing 18 = .ok (.aload_n 0, 1) := by decide +kernel
theorem dX0_keepRing_19 : decode cX0_keepRing 19 = .ok (.iload_n 3, 1) := by decide +kernel
theorem dX0_keepRing_20 : decode cX0_keepRing 20 = .ok (.iload_n 2, 1) := by decide +kernel
theorem dX0_keepRing_21 : decode cX0_keepRing 21 = .ok (.iload 4, 2) := by decide +kernel
theorem dX0_keepRing_23 : decode cX0_keepRing 23 = .ok (.isub, 1) := by decide +kernel
theorem dX0_keepRing_24 : decode cX0_keepRing 24 = .ok (.invokevirtual 77, 3) := by decide +kernel
theorem dX0_keepRing_27 : decode cX0_keepRing 27 = .ok (.istore_n 3, 1) := by decide +kernel
theorem dX0_keepRing_28 : decode cX0_keepRing 28 = .ok (.aload_n 0, 1) := by decide +kernel
theorem dX0_keepRing_29 : decode cX0_keepRing 29 = .ok (.getfield 18, 3) := by decide +kernel
theorem dX0_keepRing_32 : decode cX0_keepRing 32 = .ok (.iload 4, 2) := by decide +kernel
theorem dX0_keepRing_34 : decode cX0_keepRing 34 = .ok (.iload_n 3, 1) := by decide +kernel
theorem dX0_keepRing_35 : decode cX0_keepRing 35 = .ok (.iastore, 1) := by decide +kernel
theorem dX0_keepRing_36 : decode cX0_keepRing 36 = .ok (.iinc 4 1, 3) := by decide +kernel
theorem dX0_keepRing_39 : decode cX0_keepRing 39 = .ok (.goto (-27), 3) := by decide +kernel
theorem dX0_keepRing_42 : decode cX0_keepRing 42 = .ok (.aload_n 0, 1) := by decide +kernel
theorem dX0_keepRing_43 : decode cX0_keepRing 43 = .ok (.iload_n 2, 1) := by decide +kernel
theorem dX0_keepRing_44 : decode cX0_keepRing 44 = .ok (.putfield 40, 3) := by decide +kernel
theorem dX0_keepRing_47 : decode cX0_keepRing 47 = .ok (.return_, 1) := by decide +kernel
theorem dX0_lowestBehind_0 : decode cX0_lowestBehind 0 = .ok (.iconst 0, 1) := by decide +kernel
theorem dX0_lowestBehind_1 : decode cX0_lowestBehind 1 = .ok (.istore_n 3, 1) := by decide +kernel
theorem dX0_lowestBehind_2 : decode cX0_lowestBehind 2 = .ok (.iload_n 3, 1) := by decide +kernel
theorem dX0_lowestBehind_3 : decode cX0_lowestBehind 3 = .ok (.bipush 16, 2) := by decide +kernel
theorem dX0_lowestBehind_5 : decode cX0_lowestBehind 5 = .ok (.if_icmp .ge 34, 3) := by decide +kernel
theorem dX0_lowestBehind_8 : decode cX0_lowestBehind 8 = .ok (.aload_n 0, 1) := by decide +kernel
theorem dX0_lowestBehind_9 : decode cX0_lowestBehind 9 = .ok (.getfield 9, 3) := by decide +kernel
theorem dX0_lowestBehind_12 : decode cX0_lowestBehind 12 = .ok (.iload_n 1, 1) := by decide +kernel
theorem dX0_lowestBehind_13 : decode cX0_lowestBehind 13 = .ok (.iaload, 1) := by decide +kernel
theorem dX0_lowestBehind_14 : decode cX0_lowestBehind 14 = .ok (.iload_n 3, 1) := by decide +kernel
theorem dX0_lowestBehind_15 : decode cX0_lowestBehind 15 = .ok (.invokestatic 67, 3) := by decide +kernel
theorem dX0_lowestBehind_18 : decode cX0_lowestBehind 18 = .ok (.ifCond .eq 15, 3) := by decide +kernel
theorem dX0_lowestBehind_21 : decode cX0_lowestBehind 21 = .ok (.aload_n 0, 1) := by decide +kernel
theorem dX0_lowestBehind_22 : decode cX0_lowestBehind 22 = .ok (.getfield 15, 3) := by decide +kernel
theorem dX0_lowestBehind_25 : decode cX0_lowestBehind 25 = .ok (.iload_n 3, 1) := by decide +kernel
theorem dX0_lowestBehind_26 : decode cX0_lowestBehind 26 = .ok (.iaload, 1) := by decide +kernel
theorem dX0_lowestBehind_27 : decode cX0_lowestBehind 27 = .ok (.iload_n 2, 1) := by decide +kernel
theorem dX0_lowestBehind_28 : decode cX0_lowestBehind 28 = .ok (.if_icmp .ne 5, 3) := by decide +kernel
theorem dX0_lowestBehind_31 : decode cX0_lowestBehind 31 = .ok (.iload_n 3, 1) := by decide +kernel
theorem dX0_lowestBehind_32 : decode cX0_lowestBehind 32 = .ok (.ireturn, 1) := by decide +kernel
theorem dX0_lowestBehind_33 : decode cX0_lowestBehind 33 = .ok (.iinc 3 1, 3) := by decide +kernel
theorem dX0_lowestBehind_36 : decode cX0_lowestBehind 36 = .ok (.goto (-34), 3) := by decide +kernel
theorem dX0_lowestBehind_39 : decode cX0_lowestBehind 39 = .ok (.iload_n 1, 1) := by decide +kernel
theorem dX0_lowestBehind_40 : decode cX0_lowestBehind 40 = .ok (.ireturn, 1) := by decide +kernel
theorem dX1_init_0 : decode cX1_init 0 = .ok (.aload_n 0, 1) := by decide +kernel
theorem dX1_init_1 : decode cX1_init 1 = .ok (.invokespecial 3, 3) := by decide +kernel
theorem dX1_init_4 : decode cX1_init 4 = .ok (.aload_n 0, 1) := by decide +kernel
theorem dX1_init_5 : decode cX1_init 5 = .ok (.iload_n 1, 1) := by decide +kernel
theorem dX1_init_6 : decode cX1_init 6 = .ok (.putfield 9, 3) := by decide +kernel
theorem dX1_init_9 : decode cX1_init 9 = .ok (.aload_n 0, 1) := by decide +kernel
theorem dX1_init_10 : decode cX1_init 10 = .ok (.bipush 24, 2) := by decide +kernel
theorem dX1_init_12 : decode cX1_init 12 = .ok (.anewarray 15, 3) := by decide +kernel
theorem dX1_init_15 : decode cX1_init 15 = .ok (.putfield 17, 3) := by decide +kernel
theorem dX1_init_18 : decode cX1_init 18 = .ok (.aload_n 0, 1) := by decide +kernel
theorem dX1_init_19 : decode cX1_init 19 = .ok (.bipush 16, 2) := by decide +kernel
theorem dX1_init_21 : decode cX1_init 21 = .ok (.newarray .int, 2) := by decide +kernel
theorem dX1_init_23 : decode cX1_init 23 = .ok (.putfield 21, 3) := by decide +kernel
theorem dX1_init_26 : decode cX1_init 26 = .ok (.iconst 0, 1) := by decide +kernel
theorem dX1_init_27 : decode cX1_init 27 = .ok (.istore_n 2, 1) := by decide +kernel
theorem dX1_init_28 : decode cX1_init 28 = .ok (.iload_n 2, 1) := by decide +kernel
theorem dX1_init_29 : decode cX1_init 29 = .ok (.bipush 16, 2) := by decide +kernel
theorem dX1_init_31 : decode cX1_init 31 = .ok (.if_icmp .ge 16, 3) := by decide +kernel
theorem dX1_init_34 : decode cX1_init 34 = .ok (.aload_n 0, 1) := by decide +kernel
theorem dX1_init_35 : decode cX1_init 35 = .ok (.getfield 21, 3) := by decide +kernel
theorem dX1_init_38 : decode cX1_init 38 = .ok (.iload_n 2, 1) := by decide +kernel
theorem dX1_init_39 : decode cX1_init 39 = .ok (.iconst (-1), 1) := by decide +kernel
theorem dX1_init_40 : decode cX1_init 40 = .ok (.iastore, 1) := by decide +kernel
theorem dX1_init_41 : decode cX1_init 41 = .ok (.iinc 2 1, 3) := by decide +kernel
theorem dX1_init_44 : decode cX1_init 44 = .ok (.goto (-16), 3) := by decide +kernel
theorem dX1_init_47 : decode cX1_init 47 = .ok (.aload_n 0, 1) := by decide +kernel
theorem dX1_init_48 : decode cX1_init 48 = .ok (.bipush 24, 2) := by decide +kernel
theorem dX1_init_50 : decode cX1_init 50 = .ok (.newarray .int, 2) := by decide +kernel
theorem dX1_init_52 : decode cX1_init 52 = .ok (.putfield 25, 3) := by decide +kernel
theorem dX1_init_55 : decode cX1_init 55 = .ok (.aload_n 0, 1) := by decide +kernel
theorem dX1_init_56 : decode cX1_init 56 = .ok (.bipush 24, 2) := by decide +kernel
theorem dX1_init_58 : decode cX1_init 58 = .ok (.newarray .int, 2) := by decide +kernel
theorem dX1_init_60 : decode cX1_init 60 = .ok (.putfield 28, 3) := by decide +kernel
theorem dX1_init_63 : decode cX1_init 63 = .ok (.aload_n 0, 1) := by decide +kernel
theorem dX1_init_64 : decode cX1_init 64 = .ok (.sipush 576, 3) := by decide +kernel
theorem dX1_init_67 : decode cX1_init 67 = .ok (.newarray .byte, 2) := by decide +kernel
theorem dX1_init_69 : decode cX1_init 69 = .ok (.putfield 31, 3) := by decide +kernel
theorem dX1_init_72 : decode cX1_init 72 = .ok (.aload_n 0, 1) := by decide +kernel
theorem dX1_init_73 : decode cX1_init 73 = .ok (.bipush 13, 2) := by decide +kernel
theorem dX1_init_75 : decode cX1_init 75 = .ok (.newarray .int, 2) := by decide +kernel
theorem dX1_init_77 : decode cX1_init 77 = .ok (.putfield 35, 3) := by decide +kernel
theorem dX1_init_80 : decode cX1_init 80 = .ok (.aload_n 0, 1) := by decide +kernel
theorem dX1_init_81 : decode cX1_init 81 = .ok (.iconst (-1), 1) := by decide +kernel
theorem dX1_init_82 : decode cX1_init 82 = .ok (.putfield 38, 3) := by decide +kernel
theorem dX1_init_85 : decode cX1_init 85 = .ok (.return_, 1) := by decide +kernel
theorem dX1_keep_0 : decode cX1_keep 0 = .ok (.aload_n 1, 1) := by decide +kernel
theorem dX1_keep_1 : decode cX1_keep 1 = .ok (.getfield 41, 3) := by decide +kernel
theorem dX1_keep_4 : decode cX1_keep 4 = .ok (.invokestatic 44, 3) := by decide +kernel
theorem dX1_keep_7 : decode cX1_keep 7 = .ok (.ifCond .ne 4, 3) := by decide +kernel
theorem dX1_keep_10 : decode cX1_keep 10 = .ok (.return_, 1) := by decide +kernel
theorem dX1_keep_11 : decode cX1_keep 11 = .ok (.aload_n 0, 1) := by decide +kernel
theorem dX1_keep_12 : decode cX1_keep 12 = .ok (.aload_n 1, 1) := by decide +kernel
theorem dX1_keep_13 : decode cX1_keep 13 = .ok (.invokevirtual 48, 3) := by decide +kernel
theorem dX1_keep_16 : decode cX1_keep 16 = .ok (.aload_n 0, 1) := by decide +kernel
theorem dX1_keep_17 : decode cX1_keep 17 = .ok (.getfield 17, 3) := by decide +kernel
theorem dX1_keep_20 : decode cX1_keep 20 = .ok (.aload_n 1, 1) := by decide +kernel
theorem dX1_keep_21 : decode cX1_keep 21 = .ok (.getfield 41, 3) := by decide +kernel
theorem dX1_keep_24 : decode cX1_keep 24 = .ok (.aload_n 1, 1) := by decide +kernel
theorem dX1_keep_25 : decode cX1_keep 25 = .ok (.aastore, 1) := by decide +kernel
theorem dX1_keep_26 : decode cX1_keep 26 = .ok (.aload_n 0, 1) := by decide +kernel
theorem dX1_keep_27 : decode cX1_keep 27 = .ok (.dup, 1) := by decide +kernel
theorem dX1_keep_28 : decode cX1_keep 28 = .ok (.getfield 52, 3) := by decide +kernel
theorem dX1_keep_31 : decode cX1_keep 31 = .ok (.iconst 1, 1) := by decide +kernel
theorem dX1_keep_32 : decode cX1_keep 32 = .ok (.iadd, 1) := by decide +kernel
theorem dX1_keep_33 : decode cX1_keep 33 = .ok (.putfield 52, 3) := by decide +kernel
theorem dX1_keep_36 : decode cX1_keep 36 = .ok (.aload_n 1, 1) := by decide +kernel
theorem dX1_keep_37 : decode cX1_keep 37 = .ok (.invokevirtual 55, 3) := by decide +kernel
theorem dX1_keep_40 : decode cX1_keep 40 = .ok (.ifCond .eq 13, 3) := by decide +kernel
theorem dX1_keep_43 : decode cX1_keep 43 = .ok (.aload_n 0, 1) := by decide +kernel
theorem dX1_keep_44 : decode cX1_keep 44 = .ok (.dup, 1) := by decide +kernel
theorem dX1_keep_45 : decode cX1_keep 45 = .ok (.getfield 59, 3) := by decide +kernel
theorem dX1_keep_48 : decode cX1_keep 48 = .ok (.iconst 1, 1) := by decide +kernel
theorem dX1_keep_49 : decode cX1_keep 49 = .ok (.iadd, 1) := by decide +kernel
theorem dX1_keep_50 : decode cX1_keep 50 = .ok (.putfield 59, 3) := by decide +kernel
theorem dX1_keep_53 : decode cX1_keep 53 = .ok (.iconst 0, 1) := by decide +kernel
theorem dX1_keep_54 : decode cX1_keep 54 = .ok (.istore_n 2, 1) := by decide +kernel
theorem dX1_keep_55 : decode cX1_keep 55 = .ok (.iload_n 2, 1) := by decide +kernel
theorem dX1_keep_56 : decode cX1_keep 56 = .ok (.bipush 16, 2) := by decide +kernel
theorem dX1_keep_58 : decode cX1_keep 58 = .ok (.if_icmp .ge 37, 3) := by decide +kernel
theorem dX1_keep_61 : decode cX1_keep 61 = .ok (.aload_n 1, 1) := by decide +kernel
theorem dX1_keep_62 : decode cX1_keep 62 = .ok (.iload_n 2, 1) := by decide +kernel
theorem dX1_keep_63 : decode cX1_keep 63 = .ok (.invokevirtual 62, 3) := by decide +kernel
theorem dX1_keep_66 : decode cX1_keep 66 = .ok (.ifCond .eq 23, 3) := by decide +kernel
theorem dX1_keep_69 : decode cX1_keep 69 = .ok (.aload_n 0, 1) := by decide +kernel
theorem dX1_keep_70 : decode cX1_keep 70 = .ok (.getfield 21, 3) := by decide +kernel
theorem dX1_keep_73 : decode cX1_keep 73 = .ok (.iload_n 2, 1) := by decide +kernel
theorem dX1_keep_74 : decode cX1_keep 74 = .ok (.aload_n 1, 1) := by decide +kernel
theorem dX1_keep_75 : decode cX1_keep 75 = .ok (.getfield 41, 3) := by decide +kernel
theorem dX1_keep_78 : decode cX1_keep 78 = .ok (.iastore, 1) := by decide +kernel
theorem dX1_keep_79 : decode cX1_keep 79 = .ok (.aload_n 0, 1) := by decide +kernel
theorem dX1_keep_80 : decode cX1_keep 80 = .ok (.dup, 1) := by decide +kernel
theorem dX1_keep_81 : decode cX1_keep 81 = .ok (.getfield 65, 3) := by decide +kernel
theorem dX1_keep_84 : decode cX1_keep 84 = .ok (.iconst 1, 1) := by decide +kernel
theorem dX1_keep_85 : decode cX1_keep 85 = .ok (.iadd, 1) := by decide +kernel
theorem dX1_keep_86 : decode cX1_keep 86 = .ok (.putfield 65, 3) := by decide +kernel
theorem dX1_keep_89 : decode cX1_keep 89 = .ok (.iinc 2 1, 3) := by decide +kernel
theorem dX1_keep_92 : decode cX1_keep 92 = .ok (.goto (-37), 3) := by decide +kernel
theorem dX1_keep_95 : decode cX1_keep 95 = .ok (.return_, 1) := by decide +kernel
theorem dX1_measureFrom_0 : decode cX1_measureFrom 0 = .ok (.aload_n 0, 1) := by decide +kernel
theorem dX1_measureFrom_1 : decode cX1_measureFrom 1 = .ok (.getfield 17, 3) := by decide +kernel
theorem dX1_measureFrom_4 : decode cX1_measureFrom 4 = .ok (.astore_n 2, 1) := by decide +kernel
theorem dX1_measureFrom_5 : decode cX1_measureFrom 5 = .ok (.aload_n 2, 1) := by decide +kernel
theorem dX1_measureFrom_6 : decode cX1_measureFrom 6 = .ok (.arraylength, 1) := by decide +kernel
theorem dX1_measureFrom_7 : decode cX1_measureFrom 7 = .ok (.istore_n 3, 1) := by decide +kernel
theorem dX1_measureFrom_8 : decode cX1_measureFrom 8 = .ok (.iconst 0, 1) := by decide +kernel
theorem dX1_measureFrom_9 : decode cX1_measureFrom 9 = .ok (.istore 4, 2) := by decide +kernel
theorem dX1_measureFrom_11 : decode cX1_measureFrom 11 = .ok (.iload 4, 2) := by decide +kernel
theorem dX1_measureFrom_13 : decode cX1_measureFrom 13 = .ok (.iload_n 3, 1) := by decide +kernel
theorem dX1_measureFrom_14 : decode cX1_measureFrom 14 = .ok (.if_icmp .ge 73, 3) := by decide +kernel
theorem dX1_measureFrom_17 : decode cX1_measureFrom 17 = .ok (.aload_n 2, 1) := by decide +kernel
theorem dX1_measureFrom_18 : decode cX1_measureFrom 18 = .ok (.iload 4, 2) := by decide +kernel
theorem dX1_measureFrom_20 : decode cX1_measureFrom 20 = .ok (.aaload, 1) := by decide +kernel
theorem dX1_measureFrom_21 : decode cX1_measureFrom 21 = .ok (.astore 5, 2) := by decide +kernel
theorem dX1_measureFrom_23 : decode cX1_measureFrom 23 = .ok (.aload 5, 2) := by decide +kernel
theorem dX1_measureFrom_25 : decode cX1_measureFrom 25 = .ok (.ifnull 56, 3) := by decide +kernel
theorem dX1_measureFrom_28 : decode cX1_measureFrom 28 = .ok (.aload_n 1, 1) := by decide +kernel
theorem dX1_measureFrom_29 : decode cX1_measureFrom 29 = .ok (.aload 5, 2) := by decide +kernel
theorem dX1_measureFrom_31 : decode cX1_measureFrom 31 = .ok (.aload_n 0, 1) := by decide +kernel
theorem dX1_measureFrom_32 : decode cX1_measureFrom 32 = .ok (.getfield 35, 3) := by decide +kernel
theorem dX1_measureFrom_35 : decode cX1_measureFrom 35 = .ok (.invokevirtual 68, 3) := by decide +kernel
theorem dX1_measureFrom_38 : decode cX1_measureFrom 38 = .ok (.i2b, 1) := by decide +kernel
theorem dX1_measureFrom_39 : decode cX1_measureFrom 39 = .ok (.istore 6, 2) := by decide +kernel
theorem dX1_measureFrom_41 : decode cX1_measureFrom 41 = .ok (.aload_n 0, 1) := by decide +kernel
theorem dX1_measureFrom_42 : decode cX1_measureFrom 42 = .ok (.getfield 31, 3) := by decide +kernel
theorem dX1_measureFrom_45 : decode cX1_measureFrom 45 = .ok (.aload_n 1, 1) := by decide +kernel
theorem dX1_measureFrom_46 : decode cX1_measureFrom 46 = .ok (.getfield 41, 3) := by decide +kernel
theorem dX1_measureFrom_49 : decode cX1_measureFrom 49 = .ok (.bipush 24, 2) := by decide +kernel
theorem dX1_measureFrom_51 : decode cX1_measureFrom 51 = .ok (.imul, 1) := by decide +kernel
theorem dX1_measureFrom_52 : decode cX1_measureFrom 52 = .ok (.aload 5, 2) := by decide +kernel
theorem dX1_measureFrom_54 : decode cX1_measureFrom 54 = .ok (.getfield 41, 3) := by decide +kernel
theorem dX1_measureFrom_57 : decode cX1_measureFrom 57 = .ok (.iadd, 1) := by decide +kernel
theorem dX1_measureFrom_58 : decode cX1_measureFrom 58 = .ok (.iload 6, 2) := by decide +kernel
theorem dX1_measureFrom_60 : decode cX1_measureFrom 60 = .ok (.bastore, 1) := by decide +kernel
theorem dX1_measureFrom_61 : decode cX1_measureFrom 61 = .ok (.aload_n 0, 1) := by decide +kernel
theorem dX1_measureFrom_62 : decode cX1_measureFrom 62 = .ok (.getfield 31, 3) := by decide +kernel
theorem dX1_measureFrom_65 : decode cX1_measureFrom 65 = .ok (.aload 5, 2) := by decide +kernel
theorem dX1_measureFrom_67 : decode cX1_measureFrom 67 = .ok (.getfield 41, 3) := by decide +kernel
theorem dX1_measureFrom_70 : decode cX1_measureFrom 70 = .ok (.bipush 24, 2) := by decide +kernel
theorem dX1_measureFrom_72 : decode cX1_measureFrom 72 = .ok (.imul, 1) := by decide +kernel
theorem dX1_measureFrom_73 : decode cX1_measureFrom 73 = .ok (.aload_n 1, 1) := by decide +kernel
theorem dX1_measureFrom_74 : decode cX1_measureFrom 74 = .ok (.getfield 41, 3) := by decide +kernel
theorem dX1_measureFrom_77 : decode cX1_measureFrom 77 = .ok (.iadd, 1) := by decide +kernel
theorem dX1_measureFrom_78 : decode cX1_measureFrom 78 = .ok (.iload 6, 2) := by decide +kernel
theorem dX1_measureFrom_80 : decode cX1_measureFrom 80 = .ok (.bastore, 1) := by decide +kernel
theorem dX1_measureFrom_81 : decode cX1_measureFrom 81 = .ok (.iinc 4 1, 3) := by decide +kernel
theorem dX1_measureFrom_84 : decode cX1_measureFrom 84 = .ok (.goto (-73), 3) := by decide +kernel
theorem dX1_measureFrom_87 : decode cX1_measureFrom 87 = .ok (.return_, 1) := by decide +kernel
theorem dX1_rowOf_0 : decode cX1_rowOf 0 = .ok (.iload_n 1, 1) := by decide +kernel
theorem dX1_rowOf_1 : decode cX1_rowOf 1 = .ok (.invokestatic 44, 3) := by decide +kernel
theorem dX1_rowOf_4 : decode cX1_rowOf 4 = .ok (.ifCond .eq 12, 3) := by decide +kernel
theorem dX1_rowOf_7 : decode cX1_rowOf 7 = .ok (.aload_n 0, 1) := by decide +kernel
theorem dX1_rowOf_8 : decode cX1_rowOf 8 = .ok (.getfield 17, 3) := by decide +kernel
theorem dX1_rowOf_11 : decode cX1_rowOf 11 = .ok (.iload_n 1, 1) := by decide +kernel
theorem dX1_rowOf_12 : decode cX1_rowOf 12 = .ok (.aaload, 1) := by decide +kernel
theorem dX1_rowOf_13 : decode cX1_rowOf 13 = .ok (.goto 4, 3) := by decide +kernel
theorem dX1_rowOf_16 : decode cX1_rowOf 16 = .ok (.aconst_null, 1) := by decide +kernel
theorem dX1_rowOf_17 : decode cX1_rowOf 17 = .ok (.areturn, 1) := by decide +kernel
theorem dX1_holderOf_0 : decode cX1_holderOf 0 = .ok (.iload_n 1, 1) := by decide +kernel
theorem dX1_holderOf_1 : decode cX1_holderOf 1 = .ok (.invokestatic 72, 3) := by decide +kernel
theorem dX1_holderOf_4 : decode cX1_holderOf 4 = .ok (.ifCond .eq 12, 3) := by decide +kernel
theorem dX1_holderOf_7 : decode cX1_holderOf 7 = .ok (.aload_n 0, 1) := by decide +kernel
theorem dX1_holderOf_8 : decode cX1_holderOf 8 = .ok (.getfield 21, 3) := by decide +kernel
theorem dX1_holderOf_11 : decode cX1_holderOf 11 = .ok (.iload_n 1, 1) := by decide +kernel
theorem dX1_holderOf_12 : decode cX1_holderOf 12 = .ok (.iaload, 1) := by decide +kernel
theorem dX1_holderOf_13 : decode cX1_holderOf 13 = .ok (.goto 4, 3) := by decide +kernel
theorem dX1_holderOf_16 : decode cX1_holderOf 16 = .ok (.iconst (-1), 1) := by decide +kernel
theorem dX1_holderOf_17 : decode cX1_holderOf 17 = .ok (.ireturn, 1) := by decide +kernel
theorem dX1_awaitedBy_0 : decode cX1_awaitedBy 0 = .ok (.aload_n 0, 1) := by decide +kernel
theorem dX1_awaitedBy_1 : decode cX1_awaitedBy 1 = .ok (.iload_n 1, 1) := by decide +kernel
theorem dX1_awaitedBy_2 : decode cX1_awaitedBy 2 = .ok (.invokevirtual 75, 3) := by decide +kernel
theorem dX1_awaitedBy_5 : decode cX1_awaitedBy 5 = .ok (.astore_n 2, 1) := by decide +kernel
theorem dX1_awaitedBy_6 : decode cX1_awaitedBy 6 = .ok (.aload_n 2, 1) := by decide +kernel
theorem dX1_awaitedBy_7 : decode cX1_awaitedBy 7 = .ok (.ifnonnull 7, 3) := by decide +kernel
theorem dX1_awaitedBy_10 : decode cX1_awaitedBy 10 = .ok (.iconst (-1), 1) := by decide +kernel
theorem dX1_awaitedBy_11 : decode cX1_awaitedBy 11 = .ok (.goto 11, 3) := by decide +kernel
theorem dX1_awaitedBy_14 : decode cX1_awaitedBy 14 = .ok (.aload_n 0, 1) := by decide +kernel
theorem dX1_awaitedBy_15 : decode cX1_awaitedBy 15 = .ok (.aload_n 2, 1) := by decide +kernel
theorem dX1_awaitedBy_16 : decode cX1_awaitedBy 16 = .ok (.getfield 79, 3) := by decide +kernel
theorem dX1_awaitedBy_19 : decode cX1_awaitedBy 19 = .ok (.invokevirtual 82, 3) := by decide +kernel
theorem dX1_awaitedBy_22 : decode cX1_awaitedBy 22 = .ok (.ireturn, 1) := by decide +kernel
theorem dX1_countRings_0 : decode cX1_countRings 0 = .ok (.iconst 0, 1) := by decide +kernel
theorem dX1_countRings_1 : decode cX1_countRings 1 = .ok (.istore_n 1, 1) := by decide +kernel
theorem dX1_countRings_2 : decode cX1_countRings 2 = .ok (.iconst 0, 1) := by decide +kernel
theorem dX1_countRings_3 : decode cX1_countRings 3 = .ok (.istore_n 2, 1) := by decide +kernel
theorem dX1_countRings_4 : decode cX1_countRings 4 = .ok (.iload_n 2, 1) := by decide +kernel
theorem dX1_countRings_5 : decode cX1_countRings 5 = .ok (.bipush 24, 2) := by decide +kernel
theorem dX1_countRings_7 : decode cX1_countRings 7 = .ok (.if_icmp .ge 20, 3) := by decide +kernel
theorem dX1_countRings_10 : decode cX1_countRings 10 = .ok (.aload_n 0, 1) := by decide +kernel
theorem dX1_countRings_11 : decode cX1_countRings 11 = .ok (.iload_n 2, 1) := by decide +kernel
theorem dX1_countRings_12 : decode cX1_countRings 12 = .ok (.invokevirtual 86, 3) := by decide +kernel
theorem dX1_countRings_15 : decode cX1_countRings 15 = .ok (.ifCond .le 6, 3) := by decide +kernel
theorem dX1_countRings_18 : decode cX1_countRings 18 = .ok (.iinc 1 1, 3) := by decide +kernel
theorem dX1_countRings_21 : decode cX1_countRings 21 = .ok (.iinc 2 1, 3) := by decide +kernel
theorem dX1_countRings_24 : decode cX1_countRings 24 = .ok (.goto (-20), 3) := by decide +kernel
theorem dX1_countRings_27 : decode cX1_countRings 27 = .ok (.iload_n 1, 1) := by decide +kernel
theorem dX1_countRings_28 : decode cX1_countRings 28 = .ok (.ireturn, 1) := by decide +kernel
theorem dX1_sizeOfRingFrom_0 : decode cX1_sizeOfRingFrom 0 = .ok (.iload_n 1, 1) := by decide +kernel
theorem dX1_sizeOfRingFrom_1 : decode cX1_sizeOfRingFrom 1 = .ok (.istore_n 2, 1) := by decide +kernel
theorem dX1_sizeOfRingFrom_2 : decode cX1_sizeOfRingFrom 2 = .ok (.iconst 1, 1) := by decide +kernel
theorem dX1_sizeOfRingFrom_3 : decode cX1_sizeOfRingFrom 3 = .ok (.istore_n 3, 1) := by decide +kernel
theorem dX1_sizeOfRingFrom_4 : decode cX1_sizeOfRingFrom 4 = .ok (.iload_n 3, 1) := by decide +kernel
theorem dX1_sizeOfRingFrom_5 : decode cX1_sizeOfRingFrom 5 = .ok (.bipush 24, 2) := by decide +kernel
theorem dX1_sizeOfRingFrom_7 : decode cX1_sizeOfRingFrom 7 = .ok (.if_icmp .gt 29, 3) := by decide +kernel
theorem dX1_sizeOfRingFrom_10 : decode cX1_sizeOfRingFrom 10 = .ok (.aload_n 0, 1) := by decide +kernel
theorem dX1_sizeOfRingFrom_11 : decode cX1_sizeOfRingFrom 11 = .ok (.iload_n 2, 1) := by decide +kernel
theorem dX1_sizeOfRingFrom_12 : decode cX1_sizeOfRingFrom 12 = .ok (.invokevirtual 89, 3) := by decide +kernel
theorem dX1_sizeOfRingFrom_15 : decode cX1_sizeOfRingFrom 15 = .ok (.istore_n 2, 1) := by decide +kernel
theorem dX1_sizeOfRingFrom_16 : decode cX1_sizeOfRingFrom 16 = .ok (.iload_n 2, 1) := by decide +kernel
theorem dX1_sizeOfRingFrom_17 : decode cX1_sizeOfRingFrom 17 = .ok (.iload_n 1, 1) := by decide +kernel
theorem dX1_sizeOfRingFrom_18 : decode cX1_sizeOfRingFrom 18 = .ok (.if_icmp .ne 5, 3) := by decide +kernel
theorem dX1_sizeOfRingFrom_21 : decode cX1_sizeOfRingFrom 21 = .ok (.iload_n 3, 1) := by decide +kernel
theorem dX1_sizeOfRingFrom_22 : decode cX1_sizeOfRingFrom 22 = .ok (.ireturn, 1) := by decide +kernel
theorem dX1_sizeOfRingFrom_23 : decode cX1_sizeOfRingFrom 23 = .ok (.iload_n 2, 1) := by decide +kernel
theorem dX1_sizeOfRingFrom_24 : decode cX1_sizeOfRingFrom 24 = .ok (.iload_n 1, 1) := by decide +kernel
theorem dX1_sizeOfRingFrom_25 : decode cX1_sizeOfRingFrom 25 = .ok (.if_icmp .ge 5, 3) := by decide +kernel
theorem dX1_sizeOfRingFrom_28 : decode cX1_sizeOfRingFrom 28 = .ok (.iconst 0, 1) := by decide +kernel
theorem dX1_sizeOfRingFrom_29 : decode cX1_sizeOfRingFrom 29 = .ok (.ireturn, 1) := by decide +kernel
theorem dX1_sizeOfRingFrom_30 : decode cX1_sizeOfRingFrom 30 = .ok (.iinc 3 1, 3) := by decide +kernel
theorem dX1_sizeOfRingFrom_33 : decode cX1_sizeOfRingFrom 33 = .ok (.goto (-29), 3) := by decide +kernel
theorem dX1_sizeOfRingFrom_36 : decode cX1_sizeOfRingFrom 36 = .ok (.iconst 0, 1) := by decide +kernel
theorem dX1_sizeOfRingFrom_37 : decode cX1_sizeOfRingFrom 37 = .ok (.ireturn, 1) := by decide +kernel
theorem dX1_threadOfRing_0 : decode cX1_threadOfRing 0 = .ok (.iconst 0, 1) := by decide +kernel
theorem dX1_threadOfRing_1 : decode cX1_threadOfRing 1 = .ok (.istore_n 3, 1) := by decide +kernel
theorem dX1_threadOfRing_2 : decode cX1_threadOfRing 2 = .ok (.iconst 0, 1) := by decide +kernel
theorem dX1_threadOfRing_3 : decode cX1_threadOfRing 3 = .ok (.istore 4, 2) := by decide +kernel
theorem dX1_threadOfRing_5 : decode cX1_threadOfRing 5 = .ok (.iload 4, 2) := by decide +kernel
theorem dX1_threadOfRing_7 : decode cX1_threadOfRing 7 = .ok (.bipush 24, 2) := by decide +kernel
theorem dX1_threadOfRing_9 : decode cX1_threadOfRing 9 = .ok (.if_icmp .ge 52, 3) := by decide +kernel
theorem dX1_threadOfRing_12 : decode cX1_threadOfRing 12 = .ok (.aload_n 0, 1) := by decide +kernel
theorem dX1_threadOfRing_13 : decode cX1_threadOfRing 13 = .ok (.iload 4, 2) := by decide +kernel
theorem dX1_threadOfRing_15 : decode cX1_threadOfRing 15 = .ok (.invokevirtual 86, 3) := by decide +kernel
theorem dX1_threadOfRing_18 : decode cX1_threadOfRing 18 = .ok (.istore 5, 2) := by decide +kernel
theorem dX1_threadOfRing_20 : decode cX1_threadOfRing 20 = .ok (.iload 5, 2) := by decide +kernel
theorem dX1_threadOfRing_22 : decode cX1_threadOfRing 22 = .ok (.ifCond .le 33, 3) := by decide +kernel
theorem dX1_threadOfRing_25 : decode cX1_threadOfRing 25 = .ok (.iload_n 3, 1) := by decide +kernel
theorem dX1_threadOfRing_26 : decode cX1_threadOfRing 26 = .ok (.iload_n 1, 1) := by decide +kernel
theorem dX1_threadOfRing_27 : decode cX1_threadOfRing 27 = .ok (.if_icmp .ne 25, 3) := by decide +kernel
theorem dX1_threadOfRing_30 : decode cX1_threadOfRing 30 = .ok (.iload_n 2, 1) := by decide +kernel
theorem dX1_threadOfRing_31 : decode cX1_threadOfRing 31 = .ok (.ifCond .lt 9, 3) := by decide +kernel
theorem dX1_threadOfRing_34 : decode cX1_threadOfRing 34 = .ok (.iload_n 2, 1) := by decide +kernel
theorem dX1_threadOfRing_35 : decode cX1_threadOfRing 35 = .ok (.iload 5, 2) := by decide +kernel
theorem dX1_threadOfRing_37 : decode cX1_threadOfRing 37 = .ok (.if_icmp .lt 7, 3) := by decide +kernel
theorem dX1_threadOfRing_40 : decode cX1_threadOfRing 40 = .ok (.iconst (-1), 1) := by decide +kernel
theorem dX1_threadOfRing_41 : decode cX1_threadOfRing 41 = .ok (.goto 10, 3) := by decide +kernel
theorem dX1_threadOfRing_44 : decode cX1_threadOfRing 44 = .ok (.aload_n 0, 1) := by decide +kernel
theorem dX1_threadOfRing_45 : decode cX1_threadOfRing 45 = .ok (.iload 4, 2) := by decide +kernel
theorem dX1_threadOfRing_47 : decode cX1_threadOfRing 47 = .ok (.iload_n 2, 1) := by decide +kernel
theorem dX1_threadOfRing_48 : decode cX1_threadOfRing 48 = .ok (.invokevirtual 92, 3) := by decide +kernel
theorem dX1_threadOfRing_51 : decode cX1_threadOfRing 51 = .ok (.ireturn, 1) := by decide +kernel
theorem dX1_threadOfRing_52 : decode cX1_threadOfRing 52 = .ok (.iinc 3 1, 3) := by decide +kernel
theorem dX1_threadOfRing_55 : decode cX1_threadOfRing 55 = .ok (.iinc 4 1, 3) := by decide +kernel
theorem dX1_threadOfRing_58 : decode cX1_threadOfRing 58 = .ok (.goto (-53), 3) := by decide +kernel
theorem dX1_threadOfRing_61 : decode cX1_threadOfRing 61 = .ok (.iconst (-1), 1) := by decide +kernel
theorem dX1_threadOfRing_62 : decode cX1_threadOfRing 62 = .ok (.ireturn, 1) := by decide +kernel
theorem dX1_walkFrom_0 : decode cX1_walkFrom 0 = .ok (.iload_n 1, 1) := by decide +kernel
theorem dX1_walkFrom_1 : decode cX1_walkFrom 1 = .ok (.istore_n 3, 1) := by decide +kernel
theorem dX1_walkFrom_2 : decode cX1_walkFrom 2 = .ok (.iconst 0, 1) := by decide +kernel
theorem dX1_walkFrom_3 : decode cX1_walkFrom 3 = .ok (.istore 4, 2) := by decide +kernel
theorem dX1_walkFrom_5 : decode cX1_walkFrom 5 = .ok (.iload 4, 2) := by decide +kernel
theorem dX1_walkFrom_7 : decode cX1_walkFrom 7 = .ok (.iload_n 2, 1) := by decide +kernel
theorem dX1_walkFrom_8 : decode cX1_walkFrom 8 = .ok (.if_icmp .ge 15, 3) := by decide +kernel
theorem dX1_walkFrom_11 : decode cX1_walkFrom 11 = .ok (.aload_n 0, 1) := by decide +kernel
theorem dX1_walkFrom_12 : decode cX1_walkFrom 12 = .ok (.iload_n 3, 1) := by decide +kernel
theorem dX1_walkFrom_13 : decode cX1_walkFrom 13 = .ok (.invokevirtual 89, 3) := by decide +kernel
theorem dX1_walkFrom_16 : decode cX1_walkFrom 16 = .ok (.istore_n 3, 1) := by decide +kernel
theorem dX1_walkFrom_17 : decode cX1_walkFrom 17 = .ok (.iinc 4 1, 3) := by decide +kernel
theorem dX1_walkFrom_20 : decode cX1_walkFrom 20 = .ok (.goto (-15), 3) := by decide +kernel
theorem dX1_walkFrom_23 : decode cX1_walkFrom 23 = .ok (.iload_n 3, 1) := by decide +kernel
theorem dX1_walkFrom_24 : decode cX1_walkFrom 24 = .ok (.ireturn, 1) := by decide +kernel
theorem dX1_footOf_0 : decode cX1_footOf 0 = .ok (.aload_n 0, 1) := by decide +kernel
theorem dX1_footOf_1 : decode cX1_footOf 1 = .ok (.iload_n 1, 1) := by decide +kernel
theorem dX1_footOf_2 : decode cX1_footOf 2 = .ok (.invokevirtual 75, 3) := by decide +kernel
theorem dX1_footOf_5 : decode cX1_footOf 5 = .ok (.astore_n 2, 1) := by decide +kernel
theorem dX1_footOf_6 : decode cX1_footOf 6 = .ok (.aload_n 2, 1) := by decide +kernel
theorem dX1_footOf_7 : decode cX1_footOf 7 = .ok (.ifnull 10, 3) := by decide +kernel
theorem dX1_footOf_10 : decode cX1_footOf 10 = .ok (.aload_n 2, 1) := by decide +kernel
theorem dX1_footOf_11 : decode cX1_footOf 11 = .ok (.invokevirtual 55, 3) := by decide +kernel
theorem dX1_footOf_14 : decode cX1_footOf 14 = .ok (.ifCond .ne 5, 3) := by decide +kernel
theorem dX1_footOf_17 : decode cX1_footOf 17 = .ok (.iconst (-1), 1) := by decide +kernel
theorem dX1_footOf_18 : decode cX1_footOf 18 = .ok (.ireturn, 1) := by decide +kernel
theorem dX1_footOf_19 : decode cX1_footOf 19 = .ok (.iload_n 1, 1) := by decide +kernel
theorem dX1_footOf_20 : decode cX1_footOf 20 = .ok (.istore_n 3, 1) := by decide +kernel
theorem dX1_footOf_21 : decode cX1_footOf 21 = .ok (.iconst 0, 1) := by decide +kernel
theorem dX1_footOf_22 : decode cX1_footOf 22 = .ok (.istore 4, 2) := by decide +kernel
theorem dX1_footOf_24 : decode cX1_footOf 24 = .ok (.iload 4, 2) := by decide +kernel
theorem dX1_footOf_26 : decode cX1_footOf 26 = .ok (.bipush 24, 2) := by decide +kernel
theorem dX1_footOf_28 : decode cX1_footOf 28 = .ok (.if_icmp .ge 27, 3) := by decide +kernel
theorem dX1_footOf_31 : decode cX1_footOf 31 = .ok (.aload_n 0, 1) := by decide +kernel
theorem dX1_footOf_32 : decode cX1_footOf 32 = .ok (.iload_n 3, 1) := by decide +kernel
theorem dX1_footOf_33 : decode cX1_footOf 33 = .ok (.invokevirtual 89, 3) := by decide +kernel
theorem dX1_footOf_36 : decode cX1_footOf 36 = .ok (.istore 5, 2) := by decide +kernel
theorem dX1_footOf_38 : decode cX1_footOf 38 = .ok (.iload 5, 2) := by decide +kernel
theorem dX1_footOf_40 : decode cX1_footOf 40 = .ok (.iconst (-1), 1) := by decide +kernel
theorem dX1_footOf_41 : decode cX1_footOf 41 = .ok (.if_icmp .ne 5, 3) := by decide +kernel
theorem dX1_footOf_44 : decode cX1_footOf 44 = .ok (.iload_n 3, 1) := by decide +kernel
theorem dX1_footOf_45 : decode cX1_footOf 45 = .ok (.ireturn, 1) := by decide +kernel
theorem dX1_footOf_46 : decode cX1_footOf 46 = .ok (.iload 5, 2) := by decide +kernel
theorem dX1_footOf_48 : decode cX1_footOf 48 = .ok (.istore_n 3, 1) := by decide +kernel
theorem dX1_footOf_49 : decode cX1_footOf 49 = .ok (.iinc 4 1, 3) := by decide +kernel
theorem dX1_footOf_52 : decode cX1_footOf 52 = .ok (.goto (-28), 3) := by decide +kernel
theorem dX1_footOf_55 : decode cX1_footOf 55 = .ok (.iconst (-1), 1) := by decide +kernel
theorem dX1_footOf_56 : decode cX1_footOf 56 = .ok (.ireturn, 1) := by decide +kernel
theorem dX1_followChains_0 : decode cX1_followChains 0 = .ok (.iconst 0, 1) := by decide +kernel
theorem dX1_followChains_1 : decode cX1_followChains 1 = .ok (.istore_n 1, 1) := by decide +kernel
theorem dX1_followChains_2 : decode cX1_followChains 2 = .ok (.iload_n 1, 1) := by decide +kernel
theorem dX1_followChains_3 : decode cX1_followChains 3 = .ok (.bipush 24, 2) := by decide +kernel
theorem dX1_followChains_5 : decode cX1_followChains 5 = .ok (.if_icmp .ge 14, 3) := by decide +kernel
theorem dX1_followChains_8 : decode cX1_followChains 8 = .ok (.aload_n 0, 1) := by decide +kernel
theorem dX1_followChains_9 : decode cX1_followChains 9 = .ok (.iload_n 1, 1) := by decide +kernel
theorem dX1_followChains_10 : decode cX1_followChains 10 = .ok (.invokevirtual 96, 3) := by decide +kernel
theorem dX1_followChains_13 : decode cX1_followChains 13 = .ok (.iinc 1 1, 3) := by decide +kernel
theorem dX1_followChains_16 : decode cX1_followChains 16 = .ok (.goto (-14), 3) := by decide +kernel
theorem dX1_followChains_19 : decode cX1_followChains 19 = .ok (.return_, 1) := by decide +kernel
theorem dX1_followChainOf_0 : decode cX1_followChainOf 0 = .ok (.aload_n 0, 1) := by decide +kernel
theorem dX1_followChainOf_1 : decode cX1_followChainOf 1 = .ok (.getfield 17, 3) := by decide +kernel
theorem dX1_followChainOf_4 : decode cX1_followChainOf 4 = .ok (.iload_n 1, 1) := by decide +kernel
theorem dX1_followChainOf_5 : decode cX1_followChainOf 5 = .ok (.aaload, 1) := by decide +kernel
theorem dX1_followChainOf_6 : decode cX1_followChainOf 6 = .ok (.astore_n 2, 1) := by decide +kernel
theorem dX1_followChainOf_7 : decode cX1_followChainOf 7 = .ok (.iconst 0, 1) := by decide +kernel
theorem dX1_followChainOf_8 : decode cX1_followChainOf 8 = .ok (.istore_n 3, 1) := by decide +kernel
theorem dX1_followChainOf_9 : decode cX1_followChainOf 9 = .ok (.iload_n 3, 1) := by decide +kernel
theorem dX1_followChainOf_10 : decode cX1_followChainOf 10 = .ok (.bipush 24, 2) := by decide +kernel
theorem dX1_followChainOf_12 : decode cX1_followChainOf 12 = .ok (.if_icmp .ge 70, 3) := by decide +kernel
theorem dX1_followChainOf_15 : decode cX1_followChainOf 15 = .ok (.aload_n 2, 1) := by decide +kernel
theorem dX1_followChainOf_16 : decode cX1_followChainOf 16 = .ok (.ifnull 66, 3) := by decide +kernel
theorem dX1_followChainOf_19 : decode cX1_followChainOf 19 = .ok (.aload_n 0, 1) := by decide +kernel
theorem dX1_followChainOf_20 : decode cX1_followChainOf 20 = .ok (.getfield 25, 3) := by decide +kernel
theorem dX1_followChainOf_23 : decode cX1_followChainOf 23 = .ok (.iload_n 1, 1) := by decide +kernel
theorem dX1_followChainOf_24 : decode cX1_followChainOf 24 = .ok (.iaload, 1) := by decide +kernel
theorem dX1_followChainOf_25 : decode cX1_followChainOf 25 = .ok (.aload_n 2, 1) := by decide +kernel
theorem dX1_followChainOf_26 : decode cX1_followChainOf 26 = .ok (.getfield 41, 3) := by decide +kernel
theorem dX1_followChainOf_29 : decode cX1_followChainOf 29 = .ok (.invokestatic 100, 3) := by decide +kernel
theorem dX1_followChainOf_32 : decode cX1_followChainOf 32 = .ok (.ifCond .ne 50, 3) := by decide +kernel
theorem dX1_followChainOf_35 : decode cX1_followChainOf 35 = .ok (.aload_n 0, 1) := by decide +kernel
theorem dX1_followChainOf_36 : decode cX1_followChainOf 36 = .ok (.getfield 25, 3) := by decide +kernel
theorem dX1_followChainOf_39 : decode cX1_followChainOf 39 = .ok (.iload_n 1, 1) := by decide +kernel
theorem dX1_followChainOf_40 : decode cX1_followChainOf 40 = .ok (.dup2, 1) := by decide +kernel
theorem dX1_followChainOf_41 : decode cX1_followChainOf 41 = .ok (.iaload, 1) := by decide +kernel
theorem dX1_followChainOf_42 : decode cX1_followChainOf 42 = .ok (.iconst 1, 1) := by decide +kernel
theorem dX1_followChainOf_43 : decode cX1_followChainOf 43 = .ok (.aload_n 2, 1) := by decide +kernel
theorem dX1_followChainOf_44 : decode cX1_followChainOf 44 = .ok (.getfield 41, 3) := by decide +kernel
theorem dX1_followChainOf_47 : decode cX1_followChainOf 47 = .ok (.ishl, 1) := by decide +kernel
theorem dX1_followChainOf_48 : decode cX1_followChainOf 48 = .ok (.ior, 1) := by decide +kernel
theorem dX1_followChainOf_49 : decode cX1_followChainOf 49 = .ok (.iastore, 1) := by decide +kernel
theorem dX1_followChainOf_50 : decode cX1_followChainOf 50 = .ok (.aload_n 0, 1) := by decide +kernel
theorem dX1_followChainOf_51 : decode cX1_followChainOf 51 = .ok (.getfield 28, 3) := by decide +kernel
theorem dX1_followChainOf_54 : decode cX1_followChainOf 54 = .ok (.iload_n 1, 1) := by decide +kernel
theorem dX1_followChainOf_55 : decode cX1_followChainOf 55 = .ok (.dup2, 1) := by decide +kernel
theorem dX1_followChainOf_56 : decode cX1_followChainOf 56 = .ok (.iaload, 1) := by decide +kernel
theorem dX1_followChainOf_57 : decode cX1_followChainOf 57 = .ok (.aload_n 2, 1) := by decide +kernel
theorem dX1_followChainOf_58 : decode cX1_followChainOf 58 = .ok (.invokevirtual 104, 3) := by decide +kernel
theorem dX1_followChainOf_61 : decode cX1_followChainOf 61 = .ok (.ior, 1) := by decide +kernel
theorem dX1_followChainOf_62 : decode cX1_followChainOf 62 = .ok (.iastore, 1) := by decide +kernel
theorem dX1_followChainOf_63 : decode cX1_followChainOf 63 = .ok (.aload_n 0, 1) := by decide +kernel
theorem dX1_followChainOf_64 : decode cX1_followChainOf 64 = .ok (.aload_n 0, 1) := by decide +kernel
theorem dX1_followChainOf_65 : decode cX1_followChainOf 65 = .ok (.aload_n 2, 1) := by decide +kernel
theorem dX1_followChainOf_66 : decode cX1_followChainOf 66 = .ok (.getfield 41, 3) := by decide +kernel
theorem dX1_followChainOf_69 : decode cX1_followChainOf 69 = .ok (.invokevirtual 89, 3) := by decide +kernel
theorem dX1_followChainOf_72 : decode cX1_followChainOf 72 = .ok (.invokevirtual 75, 3) := by decide +kernel
theorem dX1_followChainOf_75 : decode cX1_followChainOf 75 = .ok (.astore_n 2, 1) := by decide +kernel
theorem dX1_followChainOf_76 : decode cX1_followChainOf 76 = .ok (.iinc 3 1, 3) := by decide +kernel
theorem dX1_followChainOf_79 : decode cX1_followChainOf 79 = .ok (.goto (-70), 3) := by decide +kernel
theorem dX1_followChainOf_82 : decode cX1_followChainOf 82 = .ok (.return_, 1) := by decide +kernel
theorem dX1_countThroughThread_0 : decode cX1_countThroughThread 0 = .ok (.iconst 0, 1) := by decide +kernel
theorem dX1_countThroughThread_1 : decode cX1_countThroughThread 1 = .ok (.istore_n 2, 1) := by decide +kernel
theorem dX1_countThroughThread_2 : decode cX1_countThroughThread 2 = .ok (.iconst 0, 1) := by decide +kernel
theorem dX1_countThroughThread_3 : decode cX1_countThroughThread 3 = .ok (.istore_n 3, 1) := by decide +kernel
theorem dX1_countThroughThread_4 : decode cX1_countThroughThread 4 = .ok (.iload_n 3, 1) := by decide +kernel
theorem dX1_countThroughThread_5 : decode cX1_countThroughThread 5 = .ok (.bipush 24, 2) := by decide +kernel
theorem dX1_countThroughThread_7 : decode cX1_countThroughThread 7 = .ok (.if_icmp .ge 30, 3) := by decide +kernel
theorem dX1_countThroughThread_10 : decode cX1_countThroughThread 10 = .ok (.iload_n 3, 1) := by decide +kernel
theorem dX1_countThroughThread_11 : decode cX1_countThroughThread 11 = .ok (.iload_n 1, 1) := by decide +kernel
theorem dX1_countThroughThread_12 : decode cX1_countThroughThread 12 = .ok (.if_icmp .eq 19, 3) := by decide +kernel
theorem dX1_countThroughThread_15 : decode cX1_countThroughThread 15 = .ok (.aload_n 0, 1) := by decide +kernel
theorem dX1_countThroughThread_16 : decode cX1_countThroughThread 16 = .ok (.getfield 25, 3) := by decide +kernel
theorem dX1_countThroughThread_19 : decode cX1_countThroughThread 19 = .ok (.iload_n 3, 1) := by decide +kernel
theorem dX1_countThroughThread_20 : decode cX1_countThroughThread 20 = .ok (.iaload, 1) := by decide +kernel
theorem dX1_countThroughThread_21 : decode cX1_countThroughThread 21 = .ok (.iload_n 1, 1) := by decide +kernel
theorem dX1_countThroughThread_22 : decode cX1_countThroughThread 22 = .ok (.invokestatic 100, 3) := by decide +kernel
theorem dX1_countThroughThread_25 : decode cX1_countThroughThread 25 = .ok (.ifCond .eq 6, 3) := by decide +kernel
theorem dX1_countThroughThread_28 : decode cX1_countThroughThread 28 = .ok (.iinc 2 1, 3) := by decide +kernel
theorem dX1_countThroughThread_31 : decode cX1_countThroughThread 31 = .ok (.iinc 3 1, 3) := by decide +kernel
theorem dX1_countThroughThread_34 : decode cX1_countThroughThread 34 = .ok (.goto (-30), 3) := by decide +kernel
theorem dX1_countThroughThread_37 : decode cX1_countThroughThread 37 = .ok (.iload_n 2, 1) := by decide +kernel
theorem dX1_countThroughThread_38 : decode cX1_countThroughThread 38 = .ok (.ireturn, 1) := by decide +kernel
theorem dX1_countThroughLock_0 : decode cX1_countThroughLock 0 = .ok (.iconst 0, 1) := by decide +kernel
theorem dX1_countThroughLock_1 : decode cX1_countThroughLock 1 = .ok (.istore_n 2, 1) := by decide +kernel
theorem dX1_countThroughLock_2 : decode cX1_countThroughLock 2 = .ok (.aload_n 0, 1) := by decide +kernel
theorem dX1_countThroughLock_3 : decode cX1_countThroughLock 3 = .ok (.getfield 28, 3) := by decide +kernel
theorem dX1_countThroughLock_6 : decode cX1_countThroughLock 6 = .ok (.astore_n 3, 1) := by decide +kernel
theorem dX1_countThroughLock_7 : decode cX1_countThroughLock 7 = .ok (.aload_n 3, 1) := by decide +kernel
theorem dX1_countThroughLock_8 : decode cX1_countThroughLock 8 = .ok (.arraylength, 1) := by decide +kernel
theorem dX1_countThroughLock_9 : decode cX1_countThroughLock 9 = .ok (.istore 4, 2) := by decide +kernel
theorem dX1_countThroughLock_11 : decode cX1_countThroughLock 11 = .ok (.iconst 0, 1) := by decide +kernel
theorem dX1_countThroughLock_12 : decode cX1_countThroughLock 12 = .ok (.istore 5, 2) := by decide +kernel
theorem dX1_countThroughLock_14 : decode cX1_countThroughLock 14 = .ok (.iload 5, 2) := by decide +kernel
theorem dX1_countThroughLock_16 : decode cX1_countThroughLock 16 = .ok (.iload 4, 2) := by decide +kernel
theorem dX1_countThroughLock_18 : decode cX1_countThroughLock 18 = .ok (.if_icmp .ge 27, 3) := by decide +kernel
theorem dX1_countThroughLock_21 : decode cX1_countThroughLock 21 = .ok (.aload_n 3, 1) := by decide +kernel
theorem dX1_countThroughLock_22 : decode cX1_countThroughLock 22 = .ok (.iload 5, 2) := by decide +kernel
theorem dX1_countThroughLock_24 : decode cX1_countThroughLock 24 = .ok (.iaload, 1) := by decide +kernel
theorem dX1_countThroughLock_25 : decode cX1_countThroughLock 25 = .ok (.istore 6, 2) := by decide +kernel
theorem dX1_countThroughLock_27 : decode cX1_countThroughLock 27 = .ok (.iload 6, 2) := by decide +kernel
theorem dX1_countThroughLock_29 : decode cX1_countThroughLock 29 = .ok (.iload_n 1, 1) := by decide +kernel
theorem dX1_countThroughLock_30 : decode cX1_countThroughLock 30 = .ok (.invokestatic 100, 3) := by decide +kernel
theorem dX1_countThroughLock_33 : decode cX1_countThroughLock 33 = .ok (.ifCond .eq 6, 3) := by decide +kernel
theorem dX1_countThroughLock_36 : decode cX1_countThroughLock 36 = .ok (.iinc 2 1, 3) := by decide +kernel
theorem dX1_countThroughLock_39 : decode cX1_countThroughLock 39 = .ok (.iinc 5 1, 3) := by decide +kernel
theorem dX1_countThroughLock_42 : decode cX1_countThroughLock 42 = .ok (.goto (-28), 3) := by decide +kernel
theorem dX1_countThroughLock_45 : decode cX1_countThroughLock 45 = .ok (.iload_n 2, 1) := by decide +kernel
theorem dX1_countThroughLock_46 : decode cX1_countThroughLock 46 = .ok (.ireturn, 1) := by decide +kernel
theorem dX1_guiltyLock_0 : decode cX1_guiltyLock 0 = .ok (.iconst (-1), 1) := by decide +kernel
theorem dX1_guiltyLock_1 : decode cX1_guiltyLock 1 = .ok (.istore_n 1, 1) := by decide +kernel
theorem dX1_guiltyLock_2 : decode cX1_guiltyLock 2 = .ok (.iconst 0, 1) := by decide +kernel
theorem dX1_guiltyLock_3 : decode cX1_guiltyLock 3 = .ok (.istore_n 2, 1) := by decide +kernel
theorem dX1_guiltyLock_4 : decode cX1_guiltyLock 4 = .ok (.iconst 0, 1) := by decide +kernel
theorem dX1_guiltyLock_5 : decode cX1_guiltyLock 5 = .ok (.istore_n 3, 1) := by decide +kernel
theorem dX1_guiltyLock_6 : decode cX1_guiltyLock 6 = .ok (.iload_n 3, 1) := by decide +kernel
theorem dX1_guiltyLock_7 : decode cX1_guiltyLock 7 = .ok (.bipush 16, 2) := by decide +kernel
theorem dX1_guiltyLock_9 : decode cX1_guiltyLock 9 = .ok (.if_icmp .ge 27, 3) := by decide +kernel
theorem dX1_guiltyLock_12 : decode cX1_guiltyLock 12 = .ok (.aload_n 0, 1) := by decide +kernel
theorem dX1_guiltyLock_13 : decode cX1_guiltyLock 13 = .ok (.iload_n 3, 1) := by decide +kernel
theorem dX1_guiltyLock_14 : decode cX1_guiltyLock 14 = .ok (.invokevirtual 108, 3) := by decide +kernel
theorem dX1_guiltyLock_17 : decode cX1_guiltyLock 17 = .ok (.istore 4, 2) := by decide +kernel
theorem dX1_guiltyLock_19 : decode cX1_guiltyLock 19 = .ok (.iload 4, 2) := by decide +kernel
theorem dX1_guiltyLock_21 : decode cX1_guiltyLock 21 = .ok (.iload_n 2, 1) := by decide +kernel
theorem dX1_guiltyLock_22 : decode cX1_guiltyLock 22 = .ok (.if_icmp .le 8, 3) := by decide +kernel
theorem dX1_guiltyLock_25 : decode cX1_guiltyLock 25 = .ok (.iload_n 3, 1) := by decide +kernel
theorem dX1_guiltyLock_26 : decode cX1_guiltyLock 26 = .ok (.istore_n 1, 1) := by decide +kernel
theorem dX1_guiltyLock_27 : decode cX1_guiltyLock 27 = .ok (.iload 4, 2) := by decide +kernel
theorem dX1_guiltyLock_29 : decode cX1_guiltyLock 29 = .ok (.istore_n 2, 1) := by decide +kernel
theorem dX1_guiltyLock_30 : decode cX1_guiltyLock 30 = .ok (.iinc 3 1, 3) := by decide +kernel
theorem dX1_guiltyLock_33 : decode cX1_guiltyLock 33 = .ok (.goto (-27), 3) := by decide +kernel
theorem dX1_guiltyLock_36 : decode cX1_guiltyLock 36 = .ok (.iload_n 1, 1) := by decide +kernel
theorem dX1_guiltyLock_37 : decode cX1_guiltyLock 37 = .ok (.ireturn, 1) := by decide +kernel
theorem dX1_distanceOf_0 : decode cX1_distanceOf 0 = .ok (.iload_n 1, 1) := by decide +kernel
theorem dX1_distanceOf_1 : decode cX1_distanceOf 1 = .ok (.invokestatic 44, 3) := by decide +kernel
theorem dX1_distanceOf_4 : decode cX1_distanceOf 4 = .ok (.ifCond .eq 24, 3) := by decide +kernel
theorem dX1_distanceOf_7 : decode cX1_distanceOf 7 = .ok (.iload_n 2, 1) := by decide +kernel
theorem dX1_distanceOf_8 : decode cX1_distanceOf 8 = .ok (.invokestatic 44, 3) := by decide +kernel
theorem dX1_distanceOf_11 : decode cX1_distanceOf 11 = .ok (.ifCond .eq 17, 3) := by decide +kernel
theorem dX1_distanceOf_14 : decode cX1_distanceOf 14 = .ok (.aload_n 0, 1) := by decide +kernel
theorem dX1_distanceOf_15 : decode cX1_distanceOf 15 = .ok (.getfield 31, 3) := by decide +kernel
theorem dX1_distanceOf_18 : decode cX1_distanceOf 18 = .ok (.iload_n 1, 1) := by decide +kernel
theorem dX1_distanceOf_19 : decode cX1_distanceOf 19 = .ok (.bipush 24, 2) := by decide +kernel
theorem dX1_distanceOf_21 : decode cX1_distanceOf 21 = .ok (.imul, 1) := by decide +kernel
theorem dX1_distanceOf_22 : decode cX1_distanceOf 22 = .ok (.iload_n 2, 1) := by decide +kernel
theorem dX1_distanceOf_23 : decode cX1_distanceOf 23 = .ok (.iadd, 1) := by decide +kernel
theorem dX1_distanceOf_24 : decode cX1_distanceOf 24 = .ok (.baload, 1) := by decide +kernel
theorem dX1_distanceOf_25 : decode cX1_distanceOf 25 = .ok (.goto 4, 3) := by decide +kernel
theorem dX1_distanceOf_28 : decode cX1_distanceOf 28 = .ok (.iconst (-1), 1) := by decide +kernel
theorem dX1_distanceOf_29 : decode cX1_distanceOf 29 = .ok (.ireturn, 1) := by decide +kernel
theorem dX1_countHeaps_0 : decode cX1_countHeaps 0 = .ok (.iconst 0, 1) := by decide +kernel
theorem dX1_countHeaps_1 : decode cX1_countHeaps 1 = .ok (.istore_n 2, 1) := by decide +kernel
theorem dX1_countHeaps_2 : decode cX1_countHeaps 2 = .ok (.iconst 0, 1) := by decide +kernel
theorem dX1_countHeaps_3 : decode cX1_countHeaps 3 = .ok (.istore_n 3, 1) := by decide +kernel
theorem dX1_countHeaps_4 : decode cX1_countHeaps 4 = .ok (.iconst 0, 1) := by decide +kernel
theorem dX1_countHeaps_5 : decode cX1_countHeaps 5 = .ok (.istore 4, 2) := by decide +kernel
theorem dX1_countHeaps_7 : decode cX1_countHeaps 7 = .ok (.iload 4, 2) := by decide +kernel
theorem dX1_countHeaps_9 : decode cX1_countHeaps 9 = .ok (.bipush 24, 2) := by decide +kernel
theorem dX1_countHeaps_11 : decode cX1_countHeaps 11 = .ok (.if_icmp .ge 41, 3) := by decide +kernel
theorem dX1_countHeaps_14 : decode cX1_countHeaps 14 = .ok (.aload_n 0, 1) := by decide +kernel
theorem dX1_countHeaps_15 : decode cX1_countHeaps 15 = .ok (.getfield 17, 3) := by decide +kernel
theorem dX1_countHeaps_18 : decode cX1_countHeaps 18 = .ok (.iload 4, 2) := by decide +kernel
theorem dX1_countHeaps_20 : decode cX1_countHeaps 20 = .ok (.aaload, 1) := by decide +kernel
theorem dX1_countHeaps_21 : decode cX1_countHeaps 21 = .ok (.ifnull 25, 3) := by decide +kernel
theorem dX1_countHeaps_24 : decode cX1_countHeaps 24 = .ok (.iload_n 3, 1) := by decide +kernel
theorem dX1_countHeaps_25 : decode cX1_countHeaps 25 = .ok (.iload 4, 2) := by decide +kernel
theorem dX1_countHeaps_27 : decode cX1_countHeaps 27 = .ok (.invokestatic 100, 3) := by decide +kernel
theorem dX1_countHeaps_30 : decode cX1_countHeaps 30 = .ok (.ifCond .ne 16, 3) := by decide +kernel
theorem dX1_countHeaps_33 : decode cX1_countHeaps 33 = .ok (.iload_n 3, 1) := by decide +kernel
theorem dX1_countHeaps_34 : decode cX1_countHeaps 34 = .ok (.aload_n 0, 1) := by decide +kernel
theorem dX1_countHeaps_35 : decode cX1_countHeaps 35 = .ok (.iload 4, 2) := by decide +kernel
theorem dX1_countHeaps_37 : decode cX1_countHeaps 37 = .ok (.iload_n 1, 1) := by decide +kernel
theorem dX1_countHeaps_38 : decode cX1_countHeaps 38 = .ok (.invokevirtual 111, 3) := by decide +kernel
theorem dX1_countHeaps_41 : decode cX1_countHeaps 41 = .ok (.ior, 1) := by decide +kernel
theorem dX1_countHeaps_42 : decode cX1_countHeaps 42 = .ok (.istore_n 3, 1) := by decide +kernel
theorem dX1_countHeaps_43 : decode cX1_countHeaps 43 = .ok (.iinc 2 1, 3) := by decide +kernel
theorem dX1_countHeaps_46 : decode cX1_countHeaps 46 = .ok (.iinc 4 1, 3) := by decide +kernel
theorem dX1_countHeaps_49 : decode cX1_countHeaps 49 = .ok (.goto (-42), 3) := by decide +kernel
theorem dX1_countHeaps_52 : decode cX1_countHeaps 52 = .ok (.iload_n 2, 1) := by decide +kernel
theorem dX1_countHeaps_53 : decode cX1_countHeaps 53 = .ok (.ireturn, 1) := by decide +kernel
theorem dX1_heapOf_0 : decode cX1_heapOf 0 = .ok (.iconst 1, 1) := by decide +kernel
theorem dX1_heapOf_1 : decode cX1_heapOf 1 = .ok (.iload_n 1, 1) := by decide +kernel
theorem dX1_heapOf_2 : decode cX1_heapOf 2 = .ok (.ishl, 1) := by decide +kernel
theorem dX1_heapOf_3 : decode cX1_heapOf 3 = .ok (.istore_n 3, 1) := by decide +kernel
theorem dX1_heapOf_4 : decode cX1_heapOf 4 = .ok (.iconst 0, 1) := by decide +kernel
theorem dX1_heapOf_5 : decode cX1_heapOf 5 = .ok (.istore 4, 2) := by decide +kernel
theorem dX1_heapOf_7 : decode cX1_heapOf 7 = .ok (.iconst 0, 1) := by decide +kernel
theorem dX1_heapOf_8 : decode cX1_heapOf 8 = .ok (.istore 5, 2) := by decide +kernel
theorem dX1_heapOf_10 : decode cX1_heapOf 10 = .ok (.iload 5, 2) := by decide +kernel
theorem dX1_heapOf_12 : decode cX1_heapOf 12 = .ok (.bipush 24, 2) := by decide +kernel
theorem dX1_heapOf_14 : decode cX1_heapOf 14 = .ok (.if_icmp .ge 45, 3) := by decide +kernel
theorem dX1_heapOf_17 : decode cX1_heapOf 17 = .ok (.iload_n 3, 1) := by decide +kernel
theorem dX1_heapOf_18 : decode cX1_heapOf 18 = .ok (.iload 4, 2) := by decide +kernel
theorem dX1_heapOf_20 : decode cX1_heapOf 20 = .ok (.if_icmp .eq 39, 3) := by decide +kernel
theorem dX1_heapOf_23 : decode cX1_heapOf 23 = .ok (.iload_n 3, 1) := by decide +kernel
theorem dX1_heapOf_24 : decode cX1_heapOf 24 = .ok (.iload 4, 2) := by decide +kernel
theorem dX1_heapOf_26 : decode cX1_heapOf 26 = .ok (.iconst (-1), 1) := by decide +kernel
theorem dX1_heapOf_27 : decode cX1_heapOf 27 = .ok (.ixor, 1) := by decide +kernel
theorem dX1_heapOf_28 : decode cX1_heapOf 28 = .ok (.iand, 1) := by decide +kernel
theorem dX1_heapOf_29 : decode cX1_heapOf 29 = .ok (.invokestatic 114, 3) := by decide +kernel
theorem dX1_heapOf_32 : decode cX1_heapOf 32 = .ok (.istore 6, 2) := by decide +kernel
theorem dX1_heapOf_34 : decode cX1_heapOf 34 = .ok (.iload 4, 2) := by decide +kernel
theorem dX1_heapOf_36 : decode cX1_heapOf 36 = .ok (.iconst 1, 1) := by decide +kernel
theorem dX1_heapOf_37 : decode cX1_heapOf 37 = .ok (.iload 6, 2) := by decide +kernel
theorem dX1_heapOf_39 : decode cX1_heapOf 39 = .ok (.ishl, 1) := by decide +kernel
theorem dX1_heapOf_40 : decode cX1_heapOf 40 = .ok (.ior, 1) := by decide +kernel
theorem dX1_heapOf_41 : decode cX1_heapOf 41 = .ok (.istore 4, 2) := by decide +kernel
theorem dX1_heapOf_43 : decode cX1_heapOf 43 = .ok (.iload_n 3, 1) := by decide +kernel
theorem dX1_heapOf_44 : decode cX1_heapOf 44 = .ok (.aload_n 0, 1) := by decide +kernel
theorem dX1_heapOf_45 : decode cX1_heapOf 45 = .ok (.iload 6, 2) := by decide +kernel
theorem dX1_heapOf_47 : decode cX1_heapOf 47 = .ok (.iload_n 2, 1) := by decide +kernel
theorem dX1_heapOf_48 : decode cX1_heapOf 48 = .ok (.invokevirtual 117, 3) := by decide +kernel
theorem dX1_heapOf_51 : decode cX1_heapOf 51 = .ok (.ior, 1) := by decide +kernel
theorem dX1_heapOf_52 : decode cX1_heapOf 52 = .ok (.istore_n 3, 1) := by decide +kernel
theorem dX1_heapOf_53 : decode cX1_heapOf 53 = .ok (.iinc 5 1, 3) := by decide +kernel
theorem dX1_heapOf_56 : decode cX1_heapOf 56 = .ok (.goto (-46), 3) := by decide +kernel
theorem dX1_heapOf_59 : decode cX1_heapOf 59 = .ok (.iload_n 3, 1) := by decide +kernel
theorem dX1_heapOf_60 : decode cX1_heapOf 60 = .ok (.ireturn, 1) := by decide +kernel
theorem dX1_neighboursOf_0 : decode cX1_neighboursOf 0 = .ok (.iconst 0, 1) := by decide +kernel
theorem dX1_neighboursOf_1 : decode cX1_neighboursOf 1 = .ok (.istore_n 3, 1) := by decide +kernel
theorem dX1_neighboursOf_2 : decode cX1_neighboursOf 2 = .ok (.iconst 0, 1) := by decide +kernel
theorem dX1_neighboursOf_3 : decode cX1_neighboursOf 3 = .ok (.istore 4, 2) := by decide +kernel
theorem dX1_neighboursOf_5 : decode cX1_neighboursOf 5 = .ok (.iload 4, 2) := by decide +kernel
theorem dX1_neighboursOf_7 : decode cX1_neighboursOf 7 = .ok (.bipush 24, 2) := by decide +kernel
theorem dX1_neighboursOf_9 : decode cX1_neighboursOf 9 = .ok (.if_icmp .ge 37, 3) := by decide +kernel
theorem dX1_neighboursOf_12 : decode cX1_neighboursOf 12 = .ok (.aload_n 0, 1) := by decide +kernel
theorem dX1_neighboursOf_13 : decode cX1_neighboursOf 13 = .ok (.getfield 17, 3) := by decide +kernel
theorem dX1_neighboursOf_16 : decode cX1_neighboursOf 16 = .ok (.iload 4, 2) := by decide +kernel
theorem dX1_neighboursOf_18 : decode cX1_neighboursOf 18 = .ok (.aaload, 1) := by decide +kernel
theorem dX1_neighboursOf_19 : decode cX1_neighboursOf 19 = .ok (.ifnull 21, 3) := by decide +kernel
theorem dX1_neighboursOf_22 : decode cX1_neighboursOf 22 = .ok (.aload_n 0, 1) := by decide +kernel
theorem dX1_neighboursOf_23 : decode cX1_neighboursOf 23 = .ok (.iload_n 1, 1) := by decide +kernel
theorem dX1_neighboursOf_24 : decode cX1_neighboursOf 24 = .ok (.iload 4, 2) := by decide +kernel
theorem dX1_neighboursOf_26 : decode cX1_neighboursOf 26 = .ok (.invokevirtual 120, 3) := by decide +kernel
theorem dX1_neighboursOf_29 : decode cX1_neighboursOf 29 = .ok (.iload_n 2, 1) := by decide +kernel
theorem dX1_neighboursOf_30 : decode cX1_neighboursOf 30 = .ok (.if_icmp .gt 10, 3) := by decide +kernel
theorem dX1_neighboursOf_33 : decode cX1_neighboursOf 33 = .ok (.iload_n 3, 1) := by decide +kernel
theorem dX1_neighboursOf_34 : decode cX1_neighboursOf 34 = .ok (.iconst 1, 1) := by decide +kernel
theorem dX1_neighboursOf_35 : decode cX1_neighboursOf 35 = .ok (.iload 4, 2) := by decide +kernel
theorem dX1_neighboursOf_37 : decode cX1_neighboursOf 37 = .ok (.ishl, 1) := by decide +kernel
theorem dX1_neighboursOf_38 : decode cX1_neighboursOf 38 = .ok (.ior, 1) := by decide +kernel
theorem dX1_neighboursOf_39 : decode cX1_neighboursOf 39 = .ok (.istore_n 3, 1) := by decide +kernel
theorem dX1_neighboursOf_40 : decode cX1_neighboursOf 40 = .ok (.iinc 4 1, 3) := by decide +kernel
theorem dX1_neighboursOf_43 : decode cX1_neighboursOf 43 = .ok (.goto (-38), 3) := by decide +kernel
theorem dX1_neighboursOf_46 : decode cX1_neighboursOf 46 = .ok (.iload_n 3, 1) := by decide +kernel
theorem dX1_neighboursOf_47 : decode cX1_neighboursOf 47 = .ok (.ireturn, 1) := by decide +kernel
theorem dX2_init_0 : decode cX2_init 0 = .ok (.aload_n 0, 1) := by decide +kernel
theorem dX2_init_1 : decode cX2_init 1 = .ok (.invokespecial 3, 3) := by decide +kernel
theorem dX2_init_4 : decode cX2_init 4 = .ok (.aload_n 0, 1) := by decide +kernel
theorem dX2_init_5 : decode cX2_init 5 = .ok (.bipush 12, 2) := by decide +kernel
theorem dX2_init_7 : decode cX2_init 7 = .ok (.newarray .byte, 2) := by decide +kernel
theorem dX2_init_9 : decode cX2_init 9 = .ok (.putfield 9, 3) := by decide +kernel
theorem dX2_init_12 : decode cX2_init 12 = .ok (.aload_n 0, 1) := by decide +kernel
theorem dX2_init_13 : decode cX2_init 13 = .ok (.iconst (-1), 1) := by decide +kernel
theorem dX2_init_14 : decode cX2_init 14 = .ok (.putfield 15, 3) := by decide +kernel
theorem dX2_init_17 : decode cX2_init 17 = .ok (.aload_n 0, 1) := by decide +kernel
theorem dX2_init_18 : decode cX2_init 18 = .ok (.iconst (-1), 1) := by decide +kernel
theorem dX2_init_19 : decode cX2_init 19 = .ok (.putfield 19, 3) := by decide +kernel
theorem dX2_init_22 : decode cX2_init 22 = .ok (.return_, 1) := by decide +kernel
theorem dX2_addCall_0 : decode cX2_addCall 0 = .ok (.aload_n 0, 1) := by decide +kernel
theorem dX2_addCall_1 : decode cX2_addCall 1 = .ok (.getfield 22, 3) := by decide +kernel
theorem dX2_addCall_4 : decode cX2_addCall 4 = .ok (.bipush 12, 2) := by decide +kernel
theorem dX2_addCall_6 : decode cX2_addCall 6 = .ok (.if_icmp .ge 24, 3) := by decide +kernel
theorem dX2_addCall_9 : decode cX2_addCall 9 = .ok (.aload_n 0, 1) := by decide +kernel
theorem dX2_addCall_10 : decode cX2_addCall 10 = .ok (.getfield 9, 3) := by decide +kernel
theorem dX2_addCall_13 : decode cX2_addCall 13 = .ok (.aload_n 0, 1) := by decide +kernel
theorem dX2_addCall_14 : decode cX2_addCall 14 = .ok (.getfield 22, 3) := by decide +kernel
theorem dX2_addCall_17 : decode cX2_addCall 17 = .ok (.iload_n 1, 1) := by decide +kernel
theorem dX2_addCall_18 : decode cX2_addCall 18 = .ok (.i2b, 1) := by decide +kernel
theorem dX2_addCall_19 : decode cX2_addCall 19 = .ok (.bastore, 1) := by decide +kernel
theorem dX2_addCall_20 : decode cX2_addCall 20 = .ok (.aload_n 0, 1) := by decide +kernel
theorem dX2_addCall_21 : decode cX2_addCall 21 = .ok (.dup, 1) := by decide +kernel
theorem dX2_addCall_22 : decode cX2_addCall 22 = .ok (.getfield 22, 3) := by decide +kernel
theorem dX2_addCall_25 : decode cX2_addCall 25 = .ok (.iconst 1, 1) := by decide +kernel
theorem dX2_addCall_26 : decode cX2_addCall 26 = .ok (.iadd, 1) := by decide +kernel
theorem dX2_addCall_27 : decode cX2_addCall 27 = .ok (.putfield 22, 3) := by decide +kernel
theorem dX2_addCall_30 : decode cX2_addCall 30 = .ok (.return_, 1) := by decide +kernel
theorem dX2_callAt_0 : decode cX2_callAt 0 = .ok (.iload_n 1, 1) := by decide +kernel
theorem dX2_callAt_1 : decode cX2_callAt 1 = .ok (.ifCond .lt 11, 3) := by decide +kernel
theorem dX2_callAt_4 : decode cX2_callAt 4 = .ok (.iload_n 1, 1) := by decide +kernel
theorem dX2_callAt_5 : decode cX2_callAt 5 = .ok (.aload_n 0, 1) := by decide +kernel
theorem dX2_callAt_6 : decode cX2_callAt 6 = .ok (.getfield 22, 3) := by decide +kernel
theorem dX2_callAt_9 : decode cX2_callAt 9 = .ok (.if_icmp .lt 7, 3) := by decide +kernel
theorem dX2_callAt_12 : decode cX2_callAt 12 = .ok (.iconst (-1), 1) := by decide +kernel
theorem dX2_callAt_13 : decode cX2_callAt 13 = .ok (.goto 9, 3) := by decide +kernel
theorem dX2_callAt_16 : decode cX2_callAt 16 = .ok (.aload_n 0, 1) := by decide +kernel
theorem dX2_callAt_17 : decode cX2_callAt 17 = .ok (.getfield 9, 3) := by decide +kernel
theorem dX2_callAt_20 : decode cX2_callAt 20 = .ok (.iload_n 1, 1) := by decide +kernel
theorem dX2_callAt_21 : decode cX2_callAt 21 = .ok (.baload, 1) := by decide +kernel
theorem dX2_callAt_22 : decode cX2_callAt 22 = .ok (.ireturn, 1) := by decide +kernel
theorem dX2_holds_0 : decode cX2_holds 0 = .ok (.aload_n 0, 1) := by decide +kernel
theorem dX2_holds_1 : decode cX2_holds 1 = .ok (.getfield 25, 3) := by decide +kernel
theorem dX2_holds_4 : decode cX2_holds 4 = .ok (.iload_n 1, 1) := by decide +kernel
theorem dX2_holds_5 : decode cX2_holds 5 = .ok (.invokestatic 28, 3) := by decide +kernel
theorem dX2_holds_8 : decode cX2_holds 8 = .ok (.ireturn, 1) := by decide +kernel
theorem dX2_isWaiting_0 : decode cX2_isWaiting 0 = .ok (.aload_n 0, 1) := by decide +kernel
theorem dX2_isWaiting_1 : decode cX2_isWaiting 1 = .ok (.getfield 19, 3) := by decide +kernel
theorem dX2_isWaiting_4 : decode cX2_isWaiting 4 = .ok (.iconst (-1), 1) := by decide +kernel
theorem dX2_isWaiting_5 : decode cX2_isWaiting 5 = .ok (.if_icmp .eq 7, 3) := by decide +kernel
theorem dX2_isWaiting_8 : decode cX2_isWaiting 8 = .ok (.iconst 1, 1) := by decide +kernel
theorem dX2_isWaiting_9 : decode cX2_isWaiting 9 = .ok (.goto 4, 3) := by decide +kernel
theorem dX2_isWaiting_12 : decode cX2_isWaiting 12 = .ok (.iconst 0, 1) := by decide +kernel
theorem dX2_isWaiting_13 : decode cX2_isWaiting 13 = .ok (.ireturn, 1) := by decide +kernel
theorem dX2_waitsAtBit_0 : decode cX2_waitsAtBit 0 = .ok (.aload_n 0, 1) := by decide +kernel
theorem dX2_waitsAtBit_1 : decode cX2_waitsAtBit 1 = .ok (.invokevirtual 32, 3) := by decide +kernel
theorem dX2_waitsAtBit_4 : decode cX2_waitsAtBit 4 = .ok (.ifCond .eq 12, 3) := by decide +kernel
theorem dX2_waitsAtBit_7 : decode cX2_waitsAtBit 7 = .ok (.iconst 1, 1) := by decide +kernel
theorem dX2_waitsAtBit_8 : decode cX2_waitsAtBit 8 = .ok (.aload_n 0, 1) := by decide +kernel
theorem dX2_waitsAtBit_9 : decode cX2_waitsAtBit 9 = .ok (.getfield 19, 3) := by decide +kernel
theorem dX2_waitsAtBit_12 : decode cX2_waitsAtBit 12 = .ok (.ishl, 1) := by decide +kernel
theorem dX2_waitsAtBit_13 : decode cX2_waitsAtBit 13 = .ok (.goto 4, 3) := by decide +kernel
theorem dX2_waitsAtBit_16 : decode cX2_waitsAtBit 16 = .ok (.iconst 0, 1) := by decide +kernel
theorem dX2_waitsAtBit_17 : decode cX2_waitsAtBit 17 = .ok (.ireturn, 1) := by decide +kernel
theorem dX2_isLike_0 : decode cX2_isLike 0 = .ok (.aload_n 0, 1) := by decide +kernel
theorem dX2_isLike_1 : decode cX2_isLike 1 = .ok (.getfield 36, 3) := by decide +kernel
theorem dX2_isLike_4 : decode cX2_isLike 4 = .ok (.aload_n 1, 1) := by decide +kernel
theorem dX2_isLike_5 : decode cX2_isLike 5 = .ok (.getfield 36, 3) := by decide +kernel
theorem dX2_isLike_8 : decode cX2_isLike 8 = .ok (.if_icmp .ne 48, 3) := by decide +kernel
theorem dX2_isLike_11 : decode cX2_isLike 11 = .ok (.aload_n 0, 1) := by decide +kernel
theorem dX2_isLike_12 : decode cX2_isLike 12 = .ok (.getfield 39, 3) := by decide +kernel
theorem dX2_isLike_15 : decode cX2_isLike 15 = .ok (.aload_n 1, 1) := by decide +kernel
theorem dX2_isLike_16 : decode cX2_isLike 16 = .ok (.getfield 39, 3) := by decide +kernel
theorem dX2_isLike_19 : decode cX2_isLike 19 = .ok (.if_icmp .ne 37, 3) := by decide +kernel
theorem dX2_isLike_22 : decode cX2_isLike 22 = .ok (.aload_n 0, 1) := by decide +kernel
theorem dX2_isLike_23 : decode cX2_isLike 23 = .ok (.getfield 25, 3) := by decide +kernel
theorem dX2_isLike_26 : decode cX2_isLike 26 = .ok (.aload_n 1, 1) := by decide +kernel
theorem dX2_isLike_27 : decode cX2_isLike 27 = .ok (.getfield 25, 3) := by decide +kernel
theorem dX2_isLike_30 : decode cX2_isLike 30 = .ok (.if_icmp .ne 26, 3) := by decide +kernel
theorem dX2_isLike_33 : decode cX2_isLike 33 = .ok (.aload_n 0, 1) := by decide +kernel
theorem dX2_isLike_34 : decode cX2_isLike 34 = .ok (.getfield 19, 3) := by decide +kernel
theorem dX2_isLike_37 : decode cX2_isLike 37 = .ok (.aload_n 1, 1) := by decide +kernel
theorem dX2_isLike_38 : decode cX2_isLike 38 = .ok (.getfield 19, 3) := by decide +kernel
theorem dX2_isLike_41 : decode cX2_isLike 41 = .ok (.if_icmp .ne 15, 3) := by decide +kernel
theorem dX2_isLike_44 : decode cX2_isLike 44 = .ok (.aload_n 0, 1) := by decide +kernel
theorem dX2_isLike_45 : decode cX2_isLike 45 = .ok (.aload_n 1, 1) := by decide +kernel
theorem dX2_isLike_46 : decode cX2_isLike 46 = .ok (.invokevirtual 42, 3) := by decide +kernel
theorem dX2_isLike_49 : decode cX2_isLike 49 = .ok (.ifCond .eq 7, 3) := by decide +kernel
theorem dX2_isLike_52 : decode cX2_isLike 52 = .ok (.iconst 1, 1) := by decide +kernel
theorem dX2_isLike_53 : decode cX2_isLike 53 = .ok (.goto 4, 3) := by decide +kernel
theorem dX2_isLike_56 : decode cX2_isLike 56 = .ok (.iconst 0, 1) := by decide +kernel
theorem dX2_isLike_57 : decode cX2_isLike 57 = .ok (.ireturn, 1) := by decide +kernel
theorem dX2_hasCallsOf_0 : decode cX2_hasCallsOf 0 = .ok (.aload_n 0, 1) := by decide +kernel
theorem dX2_hasCallsOf_1 : decode cX2_hasCallsOf 1 = .ok (.getfield 22, 3) := by decide +kernel
theorem dX2_hasCallsOf_4 : decode cX2_hasCallsOf 4 = .ok (.aload_n 1, 1) := by decide +kernel
theorem dX2_hasCallsOf_5 : decode cX2_hasCallsOf 5 = .ok (.getfield 22, 3) := by decide +kernel
theorem dX2_hasCallsOf_8 : decode cX2_hasCallsOf 8 = .ok (.if_icmp .eq 5, 3) := by decide +kernel
theorem dX2_hasCallsOf_11 : decode cX2_hasCallsOf 11 = .ok (.iconst 0, 1) := by decide +kernel
theorem dX2_hasCallsOf_12 : decode cX2_hasCallsOf 12 = .ok (.ireturn, 1) := by decide +kernel
theorem dX2_hasCallsOf_13 : decode cX2_hasCallsOf 13 = .ok (.iconst 0, 1) := by decide +kernel
theorem dX2_hasCallsOf_14 : decode cX2_hasCallsOf 14 = .ok (.istore_n 2, 1) := by decide +kernel
theorem dX2_hasCallsOf_15 : decode cX2_hasCallsOf 15 = .ok (.iload_n 2, 1) := by decide +kernel
theorem dX2_hasCallsOf_16 : decode cX2_hasCallsOf 16 = .ok (.aload_n 0, 1) := by decide +kernel
theorem dX2_hasCallsOf_17 : decode cX2_hasCallsOf 17 = .ok (.getfield 22, 3) := by decide +kernel
theorem dX2_hasCallsOf_20 : decode cX2_hasCallsOf 20 = .ok (.if_icmp .ge 26, 3) := by decide +kernel
theorem dX2_hasCallsOf_23 : decode cX2_hasCallsOf 23 = .ok (.aload_n 0, 1) := by decide +kernel
theorem dX2_hasCallsOf_24 : decode cX2_hasCallsOf 24 = .ok (.getfield 9, 3) := by decide +kernel
theorem dX2_hasCallsOf_27 : decode cX2_hasCallsOf 27 = .ok (.iload_n 2, 1) := by decide +kernel
theorem dX2_hasCallsOf_28 : decode cX2_hasCallsOf 28 = .ok (.baload, 1) := by decide +kernel
theorem dX2_hasCallsOf_29 : decode cX2_hasCallsOf 29 = .ok (.aload_n 1, 1) := by decide +kernel
theorem dX2_hasCallsOf_30 : decode cX2_hasCallsOf 30 = .ok (.getfield 9, 3) := by decide +kernel
theorem dX2_hasCallsOf_33 : decode cX2_hasCallsOf 33 = .ok (.iload_n 2, 1) := by decide +kernel
theorem dX2_hasCallsOf_34 : decode cX2_hasCallsOf 34 = .ok (.baload, 1) := by decide +kernel
theorem dX2_hasCallsOf_35 : decode cX2_hasCallsOf 35 = .ok (.if_icmp .eq 5, 3) := by decide +kernel
theorem dX2_hasCallsOf_38 : decode cX2_hasCallsOf 38 = .ok (.iconst 0, 1) := by decide +kernel
theorem dX2_hasCallsOf_39 : decode cX2_hasCallsOf 39 = .ok (.ireturn, 1) := by decide +kernel
theorem dX2_hasCallsOf_40 : decode cX2_hasCallsOf 40 = .ok (.iinc 2 1, 3) := by decide +kernel
theorem dX2_hasCallsOf_43 : decode cX2_hasCallsOf 43 = .ok (.goto (-28), 3) := by decide +kernel
theorem dX2_hasCallsOf_46 : decode cX2_hasCallsOf 46 = .ok (.iconst 1, 1) := by decide +kernel
theorem dX2_hasCallsOf_47 : decode cX2_hasCallsOf 47 = .ok (.ireturn, 1) := by decide +kernel
theorem dX2_distanceTo_0 : decode cX2_distanceTo 0 = .ok (.iconst 0, 1) := by decide +kernel
theorem dX2_distanceTo_1 : decode cX2_distanceTo 1 = .ok (.istore_n 3, 1) := by decide +kernel
theorem dX2_distanceTo_2 : decode cX2_distanceTo 2 = .ok (.iload_n 3, 1) := by decide +kernel
theorem dX2_distanceTo_3 : decode cX2_distanceTo 3 = .ok (.aload_n 1, 1) := by decide +kernel
theorem dX2_distanceTo_4 : decode cX2_distanceTo 4 = .ok (.getfield 22, 3) := by decide +kernel
theorem dX2_distanceTo_7 : decode cX2_distanceTo 7 = .ok (.if_icmp .gt 13, 3) := by decide +kernel
theorem dX2_distanceTo_10 : decode cX2_distanceTo 10 = .ok (.aload_n 2, 1) := by decide +kernel
theorem dX2_distanceTo_11 : decode cX2_distanceTo 11 = .ok (.iload_n 3, 1) := by decide +kernel
theorem dX2_distanceTo_12 : decode cX2_distanceTo 12 = .ok (.iload_n 3, 1) := by decide +kernel
theorem dX2_distanceTo_13 : decode cX2_distanceTo 13 = .ok (.iastore, 1) := by decide +kernel
theorem dX2_distanceTo_14 : decode cX2_distanceTo 14 = .ok (.iinc 3 1, 3) := by decide +kernel
theorem dX2_distanceTo_17 : decode cX2_distanceTo 17 = .ok (.goto (-15), 3) := by decide +kernel
theorem dX2_distanceTo_20 : decode cX2_distanceTo 20 = .ok (.iconst 1, 1) := by decide +kernel
theorem dX2_distanceTo_21 : decode cX2_distanceTo 21 = .ok (.istore_n 3, 1) := by decide +kernel
theorem dX2_distanceTo_22 : decode cX2_distanceTo 22 = .ok (.iload_n 3, 1) := by decide +kernel
theorem dX2_distanceTo_23 : decode cX2_distanceTo 23 = .ok (.aload_n 0, 1) := by decide +kernel
theorem dX2_distanceTo_24 : decode cX2_distanceTo 24 = .ok (.getfield 22, 3) := by decide +kernel
theorem dX2_distanceTo_27 : decode cX2_distanceTo 27 = .ok (.if_icmp .gt 95, 3) := by decide +kernel
theorem dX2_distanceTo_30 : decode cX2_distanceTo 30 = .ok (.aload_n 2, 1) := by decide +kernel
theorem dX2_distanceTo_31 : decode cX2_distanceTo 31 = .ok (.iconst 0, 1) := by decide +kernel
theorem dX2_distanceTo_32 : decode cX2_distanceTo 32 = .ok (.iaload, 1) := by decide +kernel
theorem dX2_distanceTo_33 : decode cX2_distanceTo 33 = .ok (.istore 4, 2) := by decide +kernel
theorem dX2_distanceTo_35 : decode cX2_distanceTo 35 = .ok (.aload_n 2, 1) := by decide +kernel
theorem dX2_distanceTo_36 : decode cX2_distanceTo 36 = .ok (.iconst 0, 1) := by decide +kernel
theorem dX2_distanceTo_37 : decode cX2_distanceTo 37 = .ok (.iload_n 3, 1) := by decide +kernel
theorem dX2_distanceTo_38 : decode cX2_distanceTo 38 = .ok (.iastore, 1) := by decide +kernel
theorem dX2_distanceTo_39 : decode cX2_distanceTo 39 = .ok (.iconst 1, 1) := by decide +kernel
theorem dX2_distanceTo_40 : decode cX2_distanceTo 40 = .ok (.istore 5, 2) := by decide +kernel
theorem dX2_distanceTo_42 : decode cX2_distanceTo 42 = .ok (.iload 5, 2) := by decide +kernel
theorem dX2_distanceTo_44 : decode cX2_distanceTo 44 = .ok (.aload_n 1, 1) := by decide +kernel
theorem dX2_distanceTo_45 : decode cX2_distanceTo 45 = .ok (.getfield 22, 3) := by decide +kernel
theorem dX2_distanceTo_48 : decode cX2_distanceTo 48 = .ok (.if_icmp .gt 68, 3) := by decide +kernel
theorem dX2_distanceTo_51 : decode cX2_distanceTo 51 = .ok (.aload_n 0, 1) := by decide +kernel
theorem dX2_distanceTo_52 : decode cX2_distanceTo 52 = .ok (.getfield 9, 3) := by decide +kernel
theorem dX2_distanceTo_55 : decode cX2_distanceTo 55 = .ok (.iload_n 3, 1) := by decide +kernel
theorem dX2_distanceTo_56 : decode cX2_distanceTo 56 = .ok (.iconst 1, 1) := by decide +kernel
theorem dX2_distanceTo_57 : decode cX2_distanceTo 57 = .ok (.isub, 1) := by decide +kernel
theorem dX2_distanceTo_58 : decode cX2_distanceTo 58 = .ok (.baload, 1) := by decide +kernel
theorem dX2_distanceTo_59 : decode cX2_distanceTo 59 = .ok (.aload_n 1, 1) := by decide +kernel
theorem dX2_distanceTo_60 : decode cX2_distanceTo 60 = .ok (.getfield 9, 3) := by decide +kernel
theorem dX2_distanceTo_63 : decode cX2_distanceTo 63 = .ok (.iload 5, 2) := by decide +kernel
theorem dX2_distanceTo_65 : decode cX2_distanceTo 65 = .ok (.iconst 1, 1) := by decide +kernel
theorem dX2_distanceTo_66 : decode cX2_distanceTo 66 = .ok (.isub, 1) := by decide +kernel
theorem dX2_distanceTo_67 : decode cX2_distanceTo 67 = .ok (.baload, 1) := by decide +kernel
theorem dX2_distanceTo_68 : decode cX2_distanceTo 68 = .ok (.if_icmp .ne 8, 3) := by decide +kernel
theorem dX2_distanceTo_71 : decode cX2_distanceTo 71 = .ok (.iload 4, 2) := by decide +kernel
theorem dX2_distanceTo_73 : decode cX2_distanceTo 73 = .ok (.goto 7, 3) := by decide +kernel
theorem dX2_distanceTo_76 : decode cX2_distanceTo 76 = .ok (.iload 4, 2) := by decide +kernel
theorem dX2_distanceTo_78 : decode cX2_distanceTo 78 = .ok (.iconst 1, 1) := by decide +kernel
theorem dX2_distanceTo_79 : decode cX2_distanceTo 79 = .ok (.iadd, 1) := by decide +kernel
theorem dX2_distanceTo_80 : decode cX2_distanceTo 80 = .ok (.istore 6, 2) := by decide +kernel
theorem dX2_distanceTo_82 : decode cX2_distanceTo 82 = .ok (.aload_n 2, 1) := by decide +kernel
theorem dX2_distanceTo_83 : decode cX2_distanceTo 83 = .ok (.iload 5, 2) := by decide +kernel
theorem dX2_distanceTo_85 : decode cX2_distanceTo 85 = .ok (.iaload, 1) := by decide +kernel
theorem dX2_distanceTo_86 : decode cX2_distanceTo 86 = .ok (.istore 4, 2) := by decide +kernel
theorem dX2_distanceTo_88 : decode cX2_distanceTo 88 = .ok (.aload_n 2, 1) := by decide +kernel
theorem dX2_distanceTo_89 : decode cX2_distanceTo 89 = .ok (.iload 5, 2) := by decide +kernel
theorem dX2_distanceTo_91 : decode cX2_distanceTo 91 = .ok (.iload 6, 2) := by decide +kernel
theorem dX2_distanceTo_93 : decode cX2_distanceTo 93 = .ok (.iload 4, 2) := by decide +kernel
theorem dX2_distanceTo_95 : decode cX2_distanceTo 95 = .ok (.aload_n 2, 1) := by decide +kernel
theorem dX2_distanceTo_96 : decode cX2_distanceTo 96 = .ok (.iload 5, 2) := by decide +kernel
theorem dX2_distanceTo_98 : decode cX2_distanceTo 98 = .ok (.iconst 1, 1) := by decide +kernel
theorem dX2_distanceTo_99 : decode cX2_distanceTo 99 = .ok (.isub, 1) := by decide +kernel
theorem dX2_distanceTo_100 : decode cX2_distanceTo 100 = .ok (.iaload, 1) := by decide +kernel
theorem dX2_distanceTo_101 : decode cX2_distanceTo 101 = .ok (.invokestatic 46, 3) := by decide +kernel
theorem dX2_distanceTo_104 : decode cX2_distanceTo 104 = .ok (.iconst 1, 1) := by decide +kernel
theorem dX2_distanceTo_105 : decode cX2_distanceTo 105 = .ok (.iadd, 1) := by decide +kernel
theorem dX2_distanceTo_106 : decode cX2_distanceTo 106 = .ok (.invokestatic 46, 3) := by decide +kernel
theorem dX2_distanceTo_109 : decode cX2_distanceTo 109 = .ok (.iastore, 1) := by decide +kernel
theorem dX2_distanceTo_110 : decode cX2_distanceTo 110 = .ok (.iinc 5 1, 3) := by decide +kernel
theorem dX2_distanceTo_113 : decode cX2_distanceTo 113 = .ok (.goto (-71), 3) := by decide +kernel
theorem dX2_distanceTo_116 : decode cX2_distanceTo 116 = .ok (.iinc 3 1, 3) := by decide +kernel
theorem dX2_distanceTo_119 : decode cX2_distanceTo 119 = .ok (.goto (-97), 3) := by decide +kernel
theorem dX2_distanceTo_122 : decode cX2_distanceTo 122 = .ok (.aload_n 2, 1) := by decide +kernel
theorem dX2_distanceTo_123 : decode cX2_distanceTo 123 = .ok (.aload_n 1, 1) := by decide +kernel
theorem dX2_distanceTo_124 : decode cX2_distanceTo 124 = .ok (.getfield 22, 3) := by decide +kernel
theorem dX2_distanceTo_127 : decode cX2_distanceTo 127 = .ok (.iaload, 1) := by decide +kernel
theorem dX2_distanceTo_128 : decode cX2_distanceTo 128 = .ok (.ireturn, 1) := by decide +kernel
theorem dX3_init_0 : decode cX3_init 0 = .ok (.aload_n 0, 1) := by decide +kernel
theorem dX3_init_1 : decode cX3_init 1 = .ok (.invokespecial 3, 3) := by decide +kernel
theorem dX3_init_4 : decode cX3_init 4 = .ok (.aload_n 0, 1) := by decide +kernel
theorem dX3_init_5 : decode cX3_init 5 = .ok (.aload_n 1, 1) := by decide +kernel
theorem dX3_init_6 : decode cX3_init 6 = .ok (.putfield 9, 3) := by decide +kernel
theorem dX3_init_9 : decode cX3_init 9 = .ok (.aload_n 0, 1) := by decide +kernel
theorem dX3_init_10 : decode cX3_init 10 = .ok (.aload_n 2, 1) := by decide +kernel
theorem dX3_init_11 : decode cX3_init 11 = .ok (.putfield 15, 3) := by decide +kernel
theorem dX3_init_14 : decode cX3_init 14 = .ok (.return_, 1) := by decide +kernel
theorem dX3_readRows_0 : decode cX3_readRows 0 = .ok (.iconst 0, 1) := by decide +kernel
theorem dX3_readRows_1 : decode cX3_readRows 1 = .ok (.istore_n 1, 1) := by decide +kernel
theorem dX3_readRows_2 : decode cX3_readRows 2 = .ok (.iload_n 1, 1) := by decide +kernel
theorem dX3_readRows_3 : decode cX3_readRows 3 = .ok (.bipush 24, 2) := by decide +kernel
theorem dX3_readRows_5 : decode cX3_readRows 5 = .ok (.if_icmp .gt 60, 3) := by decide +kernel
theorem dX3_readRows_8 : decode cX3_readRows 8 = .ok (.aload_n 0, 1) := by decide +kernel
theorem dX3_readRows_9 : decode cX3_readRows 9 = .ok (.getfield 9, 3) := by decide +kernel
theorem dX3_readRows_12 : decode cX3_readRows 12 = .ok (.bipush 59, 2) := by decide +kernel
theorem dX3_readRows_14 : decode cX3_readRows 14 = .ok (.invokevirtual 19, 3) := by decide +kernel
theorem dX3_readRows_17 : decode cX3_readRows 17 = .ok (.ifCond .eq 48, 3) := by decide +kernel
theorem dX3_readRows_20 : decode cX3_readRows 20 = .ok (.new 25, 3) := by decide +kernel
theorem dX3_readRows_23 : decode cX3_readRows 23 = .ok (.dup, 1) := by decide +kernel
theorem dX3_readRows_24 : decode cX3_readRows 24 = .ok (.invokespecial 27, 3) := by decide +kernel
theorem dX3_readRows_27 : decode cX3_readRows 27 = .ok (.astore_n 2, 1) := by decide +kernel
theorem dX3_readRows_28 : decode cX3_readRows 28 = .ok (.aload_n 0, 1) := by decide +kernel
theorem dX3_readRows_29 : decode cX3_readRows 29 = .ok (.aload_n 2, 1) := by decide +kernel
theorem dX3_readRows_30 : decode cX3_readRows 30 = .ok (.invokevirtual 28, 3) := by decide +kernel
theorem dX3_readRows_33 : decode cX3_readRows 33 = .ok (.ifCond .ne 18, 3) := by decide +kernel
theorem dX3_readRows_36 : decode cX3_readRows 36 = .ok (.aload_n 0, 1) := by decide +kernel
theorem dX3_readRows_37 : decode cX3_readRows 37 = .ok (.getfield 15, 3) := by decide +kernel
theorem dX3_readRows_40 : decode cX3_readRows 40 = .ok (.aload_n 0, 1) := by decide +kernel
theorem dX3_readRows_41 : decode cX3_readRows 41 = .ok (.getfield 9, 3) := by decide +kernel
theorem dX3_readRows_44 : decode cX3_readRows 44 = .ok (.getfield 32, 3) := by decide +kernel
theorem dX3_readRows_47 : decode cX3_readRows 47 = .ok (.putfield 36, 3) := by decide +kernel
theorem dX3_readRows_50 : decode cX3_readRows 50 = .ok (.return_, 1) := by decide +kernel
theorem dX3_readRows_51 : decode cX3_readRows 51 = .ok (.aload_n 0, 1) := by decide +kernel
theorem dX3_readRows_52 : decode cX3_readRows 52 = .ok (.getfield 15, 3) := by decide +kernel
theorem dX3_readRows_55 : decode cX3_readRows 55 = .ok (.aload_n 2, 1) := by decide +kernel
theorem dX3_readRows_56 : decode cX3_readRows 56 = .ok (.invokevirtual 41, 3) := by decide +kernel
theorem dX3_readRows_59 : decode cX3_readRows 59 = .ok (.iinc 1 1, 3) := by decide +kernel
theorem dX3_readRows_62 : decode cX3_readRows 62 = .ok (.goto (-60), 3) := by decide +kernel
theorem dX3_readRows_65 : decode cX3_readRows 65 = .ok (.return_, 1) := by decide +kernel
theorem dX3_readRow_0 : decode cX3_readRow 0 = .ok (.aload_n 0, 1) := by decide +kernel
theorem dX3_readRow_1 : decode cX3_readRow 1 = .ok (.aload_n 1, 1) := by decide +kernel
theorem dX3_readRow_2 : decode cX3_readRow 2 = .ok (.invokevirtual 45, 3) := by decide +kernel
theorem dX3_readRow_5 : decode cX3_readRow 5 = .ok (.ifCond .eq 57, 3) := by decide +kernel
theorem dX3_readRow_8 : decode cX3_readRow 8 = .ok (.aload_n 0, 1) := by decide +kernel
theorem dX3_readRow_9 : decode cX3_readRow 9 = .ok (.aload_n 1, 1) := by decide +kernel
theorem dX3_readRow_10 : decode cX3_readRow 10 = .ok (.invokevirtual 48, 3) := by decide +kernel
theorem dX3_readRow_13 : decode cX3_readRow 13 = .ok (.ifCond .eq 49, 3) := by decide +kernel
theorem dX3_readRow_16 : decode cX3_readRow 16 = .ok (.aload_n 0, 1) := by decide +kernel
theorem dX3_readRow_17 : decode cX3_readRow 17 = .ok (.aload_n 1, 1) := by decide +kernel
theorem dX3_readRow_18 : decode cX3_readRow 18 = .ok (.invokevirtual 51, 3) := by decide +kernel
theorem dX3_readRow_21 : decode cX3_readRow 21 = .ok (.ifCond .eq 41, 3) := by decide +kernel
theorem dX3_readRow_24 : decode cX3_readRow 24 = .ok (.aload_n 0, 1) := by decide +kernel
theorem dX3_readRow_25 : decode cX3_readRow 25 = .ok (.aload_n 1, 1) := by decide +kernel
theorem dX3_readRow_26 : decode cX3_readRow 26 = .ok (.invokevirtual 54, 3) := by decide +kernel
theorem dX3_readRow_29 : decode cX3_readRow 29 = .ok (.ifCond .eq 33, 3) := by decide +kernel
theorem dX3_readRow_32 : decode cX3_readRow 32 = .ok (.aload_n 0, 1) := by decide +kernel
theorem dX3_readRow_33 : decode cX3_readRow 33 = .ok (.aload_n 1, 1) := by decide +kernel
theorem dX3_readRow_34 : decode cX3_readRow 34 = .ok (.invokevirtual 57, 3) := by decide +kernel
theorem dX3_readRow_37 : decode cX3_readRow 37 = .ok (.ifCond .eq 25, 3) := by decide +kernel
theorem dX3_readRow_40 : decode cX3_readRow 40 = .ok (.aload_n 0, 1) := by decide +kernel
theorem dX3_readRow_41 : decode cX3_readRow 41 = .ok (.aload_n 1, 1) := by decide +kernel
theorem dX3_readRow_42 : decode cX3_readRow 42 = .ok (.invokevirtual 60, 3) := by decide +kernel
theorem dX3_readRow_45 : decode cX3_readRow 45 = .ok (.ifCond .eq 17, 3) := by decide +kernel
theorem dX3_readRow_48 : decode cX3_readRow 48 = .ok (.aload_n 0, 1) := by decide +kernel
theorem dX3_readRow_49 : decode cX3_readRow 49 = .ok (.getfield 9, 3) := by decide +kernel
theorem dX3_readRow_52 : decode cX3_readRow 52 = .ok (.invokevirtual 63, 3) := by decide +kernel
theorem dX3_readRow_55 : decode cX3_readRow 55 = .ok (.ifCond .eq 7, 3) := by decide +kernel
theorem dX3_readRow_58 : decode cX3_readRow 58 = .ok (.iconst 1, 1) := by decide +kernel
theorem dX3_readRow_59 : decode cX3_readRow 59 = .ok (.goto 4, 3) := by decide +kernel
theorem dX3_readRow_62 : decode cX3_readRow 62 = .ok (.iconst 0, 1) := by decide +kernel
theorem dX3_readRow_63 : decode cX3_readRow 63 = .ok (.ireturn, 1) := by decide +kernel
theorem dX3_readThread_0 : decode cX3_readThread 0 = .ok (.aload_n 0, 1) := by decide +kernel
theorem dX3_readThread_1 : decode cX3_readThread 1 = .ok (.getfield 9, 3) := by decide +kernel
theorem dX3_readThread_4 : decode cX3_readThread 4 = .ok (.getfield 32, 3) := by decide +kernel
theorem dX3_readThread_7 : decode cX3_readThread 7 = .ok (.istore_n 2, 1) := by decide +kernel
theorem dX3_readThread_8 : decode cX3_readThread 8 = .ok (.aload_n 1, 1) := by decide +kernel
theorem dX3_readThread_9 : decode cX3_readThread 9 = .ok (.aload_n 0, 1) := by decide +kernel
theorem dX3_readThread_10 : decode cX3_readThread 10 = .ok (.getfield 9, 3) := by decide +kernel
theorem dX3_readThread_13 : decode cX3_readThread 13 = .ok (.iconst 2, 1) := by decide +kernel
theorem dX3_readThread_14 : decode cX3_readThread 14 = .ok (.bipush 23, 2) := by decide +kernel
theorem dX3_readThread_16 : decode cX3_readThread 16 = .ok (.invokevirtual 67, 3) := by decide +kernel
theorem dX3_readThread_19 : decode cX3_readThread 19 = .ok (.putfield 71, 3) := by decide +kernel
theorem dX3_readThread_22 : decode cX3_readThread 22 = .ok (.aload_n 0, 1) := by decide +kernel
theorem dX3_readThread_23 : decode cX3_readThread 23 = .ok (.getfield 15, 3) := by decide +kernel
theorem dX3_readThread_26 : decode cX3_readThread 26 = .ok (.aload_n 1, 1) := by decide +kernel
theorem dX3_readThread_27 : decode cX3_readThread 27 = .ok (.getfield 71, 3) := by decide +kernel
theorem dX3_readThread_30 : decode cX3_readThread 30 = .ok (.invokevirtual 74, 3) := by decide +kernel
theorem dX3_readThread_33 : decode cX3_readThread 33 = .ok (.ifnull 15, 3) := by decide +kernel
theorem dX3_readThread_36 : decode cX3_readThread 36 = .ok (.aload_n 1, 1) := by decide +kernel
theorem dX3_readThread_37 : decode cX3_readThread 37 = .ok (.aload_n 0, 1) := by decide +kernel
theorem dX3_readThread_38 : decode cX3_readThread 38 = .ok (.getfield 9, 3) := by decide +kernel
theorem dX3_readThread_41 : decode cX3_readThread 41 = .ok (.iload_n 2, 1) := by decide +kernel
theorem dX3_readThread_42 : decode cX3_readThread 42 = .ok (.invokevirtual 78, 3) := by decide +kernel
theorem dX3_readThread_45 : decode cX3_readThread 45 = .ok (.putfield 71, 3) := by decide +kernel
theorem dX3_readThread_48 : decode cX3_readThread 48 = .ok (.aload_n 1, 1) := by decide +kernel
theorem dX3_readThread_49 : decode cX3_readThread 49 = .ok (.getfield 71, 3) := by decide +kernel
theorem dX3_readThread_52 : decode cX3_readThread 52 = .ok (.iconst (-1), 1) := by decide +kernel
theorem dX3_readThread_53 : decode cX3_readThread 53 = .ok (.if_icmp .eq 7, 3) := by decide +kernel
theorem dX3_readThread_56 : decode cX3_readThread 56 = .ok (.iconst 1, 1) := by decide +kernel
theorem dX3_readThread_57 : decode cX3_readThread 57 = .ok (.goto 4, 3) := by decide +kernel
theorem dX3_readThread_60 : decode cX3_readThread 60 = .ok (.iconst 0, 1) := by decide +kernel
theorem dX3_readThread_61 : decode cX3_readThread 61 = .ok (.ireturn, 1) := by decide +kernel
theorem dX3_readState_0 : decode cX3_readState 0 = .ok (.aload_n 0, 1) := by decide +kernel
theorem dX3_readState_1 : decode cX3_readState 1 = .ok (.getfield 9, 3) := by decide +kernel
theorem dX3_readState_4 : decode cX3_readState 4 = .ok (.bipush 82, 2) := by decide +kernel
theorem dX3_readState_6 : decode cX3_readState 6 = .ok (.invokevirtual 19, 3) := by decide +kernel
theorem dX3_readState_9 : decode cX3_readState 9 = .ok (.ifCond .eq 11, 3) := by decide +kernel
theorem dX3_readState_12 : decode cX3_readState 12 = .ok (.aload_n 1, 1) := by decide +kernel
theorem dX3_readState_13 : decode cX3_readState 13 = .ok (.iconst 0, 1) := by decide +kernel
theorem dX3_readState_14 : decode cX3_readState 14 = .ok (.putfield 82, 3) := by decide +kernel
theorem dX3_readState_17 : decode cX3_readState 17 = .ok (.goto 65, 3) := by decide +kernel
theorem dX3_readState_20 : decode cX3_readState 20 = .ok (.aload_n 0, 1) := by decide +kernel
theorem dX3_readState_21 : decode cX3_readState 21 = .ok (.getfield 9, 3) := by decide +kernel
theorem dX3_readState_24 : decode cX3_readState 24 = .ok (.bipush 87, 2) := by decide +kernel
theorem dX3_readState_26 : decode cX3_readState 26 = .ok (.invokevirtual 19, 3) := by decide +kernel
theorem dX3_readState_29 : decode cX3_readState 29 = .ok (.ifCond .eq 11, 3) := by decide +kernel
theorem dX3_readState_32 : decode cX3_readState 32 = .ok (.aload_n 1, 1) := by decide +kernel
theorem dX3_readState_33 : decode cX3_readState 33 = .ok (.iconst 1, 1) := by decide +kernel
theorem dX3_readState_34 : decode cX3_readState 34 = .ok (.putfield 82, 3) := by decide +kernel
theorem dX3_readState_37 : decode cX3_readState 37 = .ok (.goto 45, 3) := by decide +kernel
theorem dX3_readState_40 : decode cX3_readState 40 = .ok (.aload_n 0, 1) := by decide +kernel
theorem dX3_readState_41 : decode cX3_readState 41 = .ok (.getfield 9, 3) := by decide +kernel
theorem dX3_readState_44 : decode cX3_readState 44 = .ok (.bipush 83, 2) := by decide +kernel
theorem dX3_readState_46 : decode cX3_readState 46 = .ok (.invokevirtual 19, 3) := by decide +kernel
theorem dX3_readState_49 : decode cX3_readState 49 = .ok (.ifCond .eq 11, 3) := by decide +kernel
theorem dX3_readState_52 : decode cX3_readState 52 = .ok (.aload_n 1, 1) := by decide +kernel
theorem dX3_readState_53 : decode cX3_readState 53 = .ok (.iconst 2, 1) := by decide +kernel
theorem dX3_readState_54 : decode cX3_readState 54 = .ok (.putfield 82, 3) := by decide +kernel
theorem dX3_readState_57 : decode cX3_readState 57 = .ok (.goto 25, 3) := by decide +kernel
theorem dX3_readState_60 : decode cX3_readState 60 = .ok (.aload_n 0, 1) := by decide +kernel
theorem dX3_readState_61 : decode cX3_readState 61 = .ok (.getfield 9, 3) := by decide +kernel
theorem dX3_readState_64 : decode cX3_readState 64 = .ok (.bipush 70, 2) := by decide +kernel
theorem dX3_readState_66 : decode cX3_readState 66 = .ok (.invokevirtual 19, 3) := by decide +kernel
theorem dX3_readState_69 : decode cX3_readState 69 = .ok (.ifCond .eq 11, 3) := by decide +kernel
theorem dX3_readState_72 : decode cX3_readState 72 = .ok (.aload_n 1, 1) := by decide +kernel
theorem dX3_readState_73 : decode cX3_readState 73 = .ok (.iconst 3, 1) := by decide +kernel
theorem dX3_readState_74 : decode cX3_readState 74 = .ok (.putfield 82, 3) := by decide +kernel
theorem dX3_readState_77 : decode cX3_readState 77 = .ok (.goto 5, 3) := by decide +kernel
theorem dX3_readState_80 : decode cX3_readState 80 = .ok (.iconst 0, 1) := by decide +kernel
theorem dX3_readState_81 : decode cX3_readState 81 = .ok (.ireturn, 1) := by decide +kernel
theorem dX3_readState_82 : decode cX3_readState 82 = .ok (.iconst 1, 1) := by decide +kernel
theorem dX3_readState_83 : decode cX3_readState 83 = .ok (.ireturn, 1) := by decide +kernel
theorem dX3_readCounter_0 : decode cX3_readCounter 0 = .ok (.aload_n 1, 1) := by decide +kernel
theorem dX3_readCounter_1 : decode cX3_readCounter 1 = .ok (.aload_n 0, 1) := by decide +kernel
theorem dX3_readCounter_2 : decode cX3_readCounter 2 = .ok (.getfield 9, 3) := by decide +kernel
theorem dX3_readCounter_5 : decode cX3_readCounter 5 = .ok (.iconst 4, 1) := by decide +kernel
theorem dX3_readCounter_6 : decode cX3_readCounter 6 = .ok (.sipush 9999, 3) := by decide +kernel
theorem dX3_readCounter_9 : decode cX3_readCounter 9 = .ok (.invokevirtual 67, 3) := by decide +kernel
theorem dX3_readCounter_12 : decode cX3_readCounter 12 = .ok (.putfield 85, 3) := by decide +kernel
theorem dX3_readCounter_15 : decode cX3_readCounter 15 = .ok (.aload_n 1, 1) := by decide +kernel
theorem dX3_readCounter_16 : decode cX3_readCounter 16 = .ok (.getfield 85, 3) := by decide +kernel
theorem dX3_readCounter_19 : decode cX3_readCounter 19 = .ok (.iconst (-1), 1) := by decide +kernel
theorem dX3_readCounter_20 : decode cX3_readCounter 20 = .ok (.if_icmp .eq 7, 3) := by decide +kernel
theorem dX3_readCounter_23 : decode cX3_readCounter 23 = .ok (.iconst 1, 1) := by decide +kernel
theorem dX3_readCounter_24 : decode cX3_readCounter 24 = .ok (.goto 4, 3) := by decide +kernel
theorem dX3_readCounter_27 : decode cX3_readCounter 27 = .ok (.iconst 0, 1) := by decide +kernel
theorem dX3_readCounter_28 : decode cX3_readCounter 28 = .ok (.ireturn, 1) := by decide +kernel
theorem dX3_readHeld_0 : decode cX3_readHeld 0 = .ok (.aload_n 0, 1) := by decide +kernel
theorem dX3_readHeld_1 : decode cX3_readHeld 1 = .ok (.getfield 9, 3) := by decide +kernel
theorem dX3_readHeld_4 : decode cX3_readHeld 4 = .ok (.bipush 104, 2) := by decide +kernel
theorem dX3_readHeld_6 : decode cX3_readHeld 6 = .ok (.invokevirtual 19, 3) := by decide +kernel
theorem dX3_readHeld_9 : decode cX3_readHeld 9 = .ok (.ifCond .ne 5, 3) := by decide +kernel
theorem dX3_readHeld_12 : decode cX3_readHeld 12 = .ok (.iconst 1, 1) := by decide +kernel
theorem dX3_readHeld_13 : decode cX3_readHeld 13 = .ok (.ireturn, 1) := by decide +kernel
theorem dX3_readHeld_14 : decode cX3_readHeld 14 = .ok (.aload_n 0, 1) := by decide +kernel
theorem dX3_readHeld_15 : decode cX3_readHeld 15 = .ok (.aload_n 1, 1) := by decide +kernel
theorem dX3_readHeld_16 : decode cX3_readHeld 16 = .ok (.invokevirtual 88, 3) := by decide +kernel
theorem dX3_readHeld_19 : decode cX3_readHeld 19 = .ok (.istore_n 2, 1) := by decide +kernel
theorem dX3_readHeld_20 : decode cX3_readHeld 20 = .ok (.iconst 1, 1) := by decide +kernel
theorem dX3_readHeld_21 : decode cX3_readHeld 21 = .ok (.istore_n 3, 1) := by decide +kernel
theorem dX3_readHeld_22 : decode cX3_readHeld 22 = .ok (.iload_n 3, 1) := by decide +kernel
theorem dX3_readHeld_23 : decode cX3_readHeld 23 = .ok (.iconst 4, 1) := by decide +kernel
theorem dX3_readHeld_24 : decode cX3_readHeld 24 = .ok (.if_icmp .ge 31, 3) := by decide +kernel
theorem dX3_readHeld_27 : decode cX3_readHeld 27 = .ok (.iload_n 2, 1) := by decide +kernel
theorem dX3_readHeld_28 : decode cX3_readHeld 28 = .ok (.ifCond .eq 27, 3) := by decide +kernel
theorem dX3_readHeld_31 : decode cX3_readHeld 31 = .ok (.aload_n 0, 1) := by decide +kernel
theorem dX3_readHeld_32 : decode cX3_readHeld 32 = .ok (.getfield 9, 3) := by decide +kernel
