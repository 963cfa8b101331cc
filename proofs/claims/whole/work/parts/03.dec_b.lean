theorem dX3_readHeld_35 : decode cX3_readHeld 35 = .ok (.bipush 44, 2) := by decide +kernel
theorem dX3_readHeld_37 : decode cX3_readHeld 37 = .ok (.invokevirtual 19, 3) := by decide +kernel
theorem dX3_readHeld_40 : decode cX3_readHeld 40 = .ok (.ifCond .eq 15, 3) := by decide +kernel
theorem dX3_readHeld_43 : decode cX3_readHeld 43 = .ok (.aload_n 0, 1) := by decide +kernel
theorem dX3_readHeld_44 : decode cX3_readHeld 44 = .ok (.aload_n 1, 1) := by decide +kernel
theorem dX3_readHeld_45 : decode cX3_readHeld 45 = .ok (.invokevirtual 88, 3) := by decide +kernel
theorem dX3_readHeld_48 : decode cX3_readHeld 48 = .ok (.istore_n 2, 1) := by decide +kernel
theorem dX3_readHeld_49 : decode cX3_readHeld 49 = .ok (.iinc 3 1, 3) := by decide +kernel
theorem dX3_readHeld_52 : decode cX3_readHeld 52 = .ok (.goto (-30), 3) := by decide +kernel
theorem dX3_readHeld_55 : decode cX3_readHeld 55 = .ok (.iload_n 2, 1) := by decide +kernel
theorem dX3_readHeld_56 : decode cX3_readHeld 56 = .ok (.ireturn, 1) := by decide +kernel
theorem dX3_readHeldLock_0 : decode cX3_readHeldLock 0 = .ok (.aload_n 0, 1) := by decide +kernel
theorem dX3_readHeldLock_1 : decode cX3_readHeldLock 1 = .ok (.getfield 9, 3) := by decide +kernel
theorem dX3_readHeldLock_4 : decode cX3_readHeldLock 4 = .ok (.getfield 32, 3) := by decide +kernel
theorem dX3_readHeldLock_7 : decode cX3_readHeldLock 7 = .ok (.istore_n 2, 1) := by decide +kernel
theorem dX3_readHeldLock_8 : decode cX3_readHeldLock 8 = .ok (.aload_n 0, 1) := by decide +kernel
theorem dX3_readHeldLock_9 : decode cX3_readHeldLock 9 = .ok (.getfield 9, 3) := by decide +kernel
theorem dX3_readHeldLock_12 : decode cX3_readHeldLock 12 = .ok (.iconst 2, 1) := by decide +kernel
theorem dX3_readHeldLock_13 : decode cX3_readHeldLock 13 = .ok (.bipush 15, 2) := by decide +kernel
theorem dX3_readHeldLock_15 : decode cX3_readHeldLock 15 = .ok (.invokevirtual 67, 3) := by decide +kernel
theorem dX3_readHeldLock_18 : decode cX3_readHeldLock 18 = .ok (.istore_n 3, 1) := by decide +kernel
theorem dX3_readHeldLock_19 : decode cX3_readHeldLock 19 = .ok (.iload_n 3, 1) := by decide +kernel
theorem dX3_readHeldLock_20 : decode cX3_readHeldLock 20 = .ok (.iconst (-1), 1) := by decide +kernel
theorem dX3_readHeldLock_21 : decode cX3_readHeldLock 21 = .ok (.if_icmp .eq 32, 3) := by decide +kernel
theorem dX3_readHeldLock_24 : decode cX3_readHeldLock 24 = .ok (.aload_n 1, 1) := by decide +kernel
theorem dX3_readHeldLock_25 : decode cX3_readHeldLock 25 = .ok (.iload_n 3, 1) := by decide +kernel
theorem dX3_readHeldLock_26 : decode cX3_readHeldLock 26 = .ok (.invokevirtual 91, 3) := by decide +kernel
theorem dX3_readHeldLock_29 : decode cX3_readHeldLock 29 = .ok (.ifCond .ne 15, 3) := by decide +kernel
theorem dX3_readHeldLock_32 : decode cX3_readHeldLock 32 = .ok (.aload_n 0, 1) := by decide +kernel
theorem dX3_readHeldLock_33 : decode cX3_readHeldLock 33 = .ok (.getfield 15, 3) := by decide +kernel
theorem dX3_readHeldLock_36 : decode cX3_readHeldLock 36 = .ok (.iload_n 3, 1) := by decide +kernel
theorem dX3_readHeldLock_37 : decode cX3_readHeldLock 37 = .ok (.invokevirtual 95, 3) := by decide +kernel
theorem dX3_readHeldLock_40 : decode cX3_readHeldLock 40 = .ok (.iconst (-1), 1) := by decide +kernel
theorem dX3_readHeldLock_41 : decode cX3_readHeldLock 41 = .ok (.if_icmp .eq 12, 3) := by decide +kernel
theorem dX3_readHeldLock_44 : decode cX3_readHeldLock 44 = .ok (.aload_n 0, 1) := by decide +kernel
theorem dX3_readHeldLock_45 : decode cX3_readHeldLock 45 = .ok (.getfield 9, 3) := by decide +kernel
theorem dX3_readHeldLock_48 : decode cX3_readHeldLock 48 = .ok (.iload_n 2, 1) := by decide +kernel
theorem dX3_readHeldLock_49 : decode cX3_readHeldLock 49 = .ok (.invokevirtual 78, 3) := by decide +kernel
theorem dX3_readHeldLock_52 : decode cX3_readHeldLock 52 = .ok (.istore_n 3, 1) := by decide +kernel
theorem dX3_readHeldLock_53 : decode cX3_readHeldLock 53 = .ok (.iload_n 3, 1) := by decide +kernel
theorem dX3_readHeldLock_54 : decode cX3_readHeldLock 54 = .ok (.iconst (-1), 1) := by decide +kernel
theorem dX3_readHeldLock_55 : decode cX3_readHeldLock 55 = .ok (.if_icmp .ne 5, 3) := by decide +kernel
theorem dX3_readHeldLock_58 : decode cX3_readHeldLock 58 = .ok (.iconst 0, 1) := by decide +kernel
theorem dX3_readHeldLock_59 : decode cX3_readHeldLock 59 = .ok (.ireturn, 1) := by decide +kernel
theorem dX3_readHeldLock_60 : decode cX3_readHeldLock 60 = .ok (.aload_n 1, 1) := by decide +kernel
theorem dX3_readHeldLock_61 : decode cX3_readHeldLock 61 = .ok (.dup, 1) := by decide +kernel
theorem dX3_readHeldLock_62 : decode cX3_readHeldLock 62 = .ok (.getfield 98, 3) := by decide +kernel
theorem dX3_readHeldLock_65 : decode cX3_readHeldLock 65 = .ok (.iconst 1, 1) := by decide +kernel
theorem dX3_readHeldLock_66 : decode cX3_readHeldLock 66 = .ok (.iload_n 3, 1) := by decide +kernel
theorem dX3_readHeldLock_67 : decode cX3_readHeldLock 67 = .ok (.ishl, 1) := by decide +kernel
theorem dX3_readHeldLock_68 : decode cX3_readHeldLock 68 = .ok (.ior, 1) := by decide +kernel
theorem dX3_readHeldLock_69 : decode cX3_readHeldLock 69 = .ok (.putfield 98, 3) := by decide +kernel
theorem dX3_readHeldLock_72 : decode cX3_readHeldLock 72 = .ok (.iconst 1, 1) := by decide +kernel
theorem dX3_readHeldLock_73 : decode cX3_readHeldLock 73 = .ok (.ireturn, 1) := by decide +kernel
theorem dX3_readWait_0 : decode cX3_readWait 0 = .ok (.aload_n 1, 1) := by decide +kernel
theorem dX3_readWait_1 : decode cX3_readWait 1 = .ok (.getfield 82, 3) := by decide +kernel
theorem dX3_readWait_4 : decode cX3_readWait 4 = .ok (.iconst 1, 1) := by decide +kernel
theorem dX3_readWait_5 : decode cX3_readWait 5 = .ok (.if_icmp .eq 13, 3) := by decide +kernel
theorem dX3_readWait_8 : decode cX3_readWait 8 = .ok (.aload_n 1, 1) := by decide +kernel
theorem dX3_readWait_9 : decode cX3_readWait 9 = .ok (.getfield 82, 3) := by decide +kernel
theorem dX3_readWait_12 : decode cX3_readWait 12 = .ok (.iconst 2, 1) := by decide +kernel
theorem dX3_readWait_13 : decode cX3_readWait 13 = .ok (.if_icmp .eq 5, 3) := by decide +kernel
theorem dX3_readWait_16 : decode cX3_readWait 16 = .ok (.iconst 1, 1) := by decide +kernel
theorem dX3_readWait_17 : decode cX3_readWait 17 = .ok (.ireturn, 1) := by decide +kernel
theorem dX3_readWait_18 : decode cX3_readWait 18 = .ok (.aload_n 0, 1) := by decide +kernel
theorem dX3_readWait_19 : decode cX3_readWait 19 = .ok (.getfield 9, 3) := by decide +kernel
theorem dX3_readWait_22 : decode cX3_readWait 22 = .ok (.bipush 119, 2) := by decide +kernel
theorem dX3_readWait_24 : decode cX3_readWait 24 = .ok (.invokevirtual 19, 3) := by decide +kernel
theorem dX3_readWait_27 : decode cX3_readWait 27 = .ok (.ifCond .ne 5, 3) := by decide +kernel
theorem dX3_readWait_30 : decode cX3_readWait 30 = .ok (.iconst 0, 1) := by decide +kernel
theorem dX3_readWait_31 : decode cX3_readWait 31 = .ok (.ireturn, 1) := by decide +kernel
theorem dX3_readWait_32 : decode cX3_readWait 32 = .ok (.aload_n 1, 1) := by decide +kernel
theorem dX3_readWait_33 : decode cX3_readWait 33 = .ok (.aload_n 0, 1) := by decide +kernel
theorem dX3_readWait_34 : decode cX3_readWait 34 = .ok (.getfield 9, 3) := by decide +kernel
theorem dX3_readWait_37 : decode cX3_readWait 37 = .ok (.iconst 2, 1) := by decide +kernel
theorem dX3_readWait_38 : decode cX3_readWait 38 = .ok (.bipush 15, 2) := by decide +kernel
theorem dX3_readWait_40 : decode cX3_readWait 40 = .ok (.invokevirtual 67, 3) := by decide +kernel
theorem dX3_readWait_43 : decode cX3_readWait 43 = .ok (.putfield 101, 3) := by decide +kernel
theorem dX3_readWait_46 : decode cX3_readWait 46 = .ok (.aload_n 1, 1) := by decide +kernel
theorem dX3_readWait_47 : decode cX3_readWait 47 = .ok (.getfield 101, 3) := by decide +kernel
theorem dX3_readWait_50 : decode cX3_readWait 50 = .ok (.iconst (-1), 1) := by decide +kernel
theorem dX3_readWait_51 : decode cX3_readWait 51 = .ok (.if_icmp .eq 7, 3) := by decide +kernel
theorem dX3_readWait_54 : decode cX3_readWait 54 = .ok (.iconst 1, 1) := by decide +kernel
theorem dX3_readWait_55 : decode cX3_readWait 55 = .ok (.goto 4, 3) := by decide +kernel
theorem dX3_readWait_58 : decode cX3_readWait 58 = .ok (.iconst 0, 1) := by decide +kernel
theorem dX3_readWait_59 : decode cX3_readWait 59 = .ok (.ireturn, 1) := by decide +kernel
theorem dX3_readCalls_0 : decode cX3_readCalls 0 = .ok (.aload_n 0, 1) := by decide +kernel
theorem dX3_readCalls_1 : decode cX3_readCalls 1 = .ok (.getfield 9, 3) := by decide +kernel
theorem dX3_readCalls_4 : decode cX3_readCalls 4 = .ok (.bipush 99, 2) := by decide +kernel
theorem dX3_readCalls_6 : decode cX3_readCalls 6 = .ok (.invokevirtual 19, 3) := by decide +kernel
theorem dX3_readCalls_9 : decode cX3_readCalls 9 = .ok (.ifCond .ne 5, 3) := by decide +kernel
theorem dX3_readCalls_12 : decode cX3_readCalls 12 = .ok (.iconst 1, 1) := by decide +kernel
theorem dX3_readCalls_13 : decode cX3_readCalls 13 = .ok (.ireturn, 1) := by decide +kernel
theorem dX3_readCalls_14 : decode cX3_readCalls 14 = .ok (.iconst 0, 1) := by decide +kernel
theorem dX3_readCalls_15 : decode cX3_readCalls 15 = .ok (.istore_n 2, 1) := by decide +kernel
theorem dX3_readCalls_16 : decode cX3_readCalls 16 = .ok (.iload_n 2, 1) := by decide +kernel
theorem dX3_readCalls_17 : decode cX3_readCalls 17 = .ok (.bipush 12, 2) := by decide +kernel
theorem dX3_readCalls_19 : decode cX3_readCalls 19 = .ok (.if_icmp .ge 46, 3) := by decide +kernel
theorem dX3_readCalls_22 : decode cX3_readCalls 22 = .ok (.aload_n 0, 1) := by decide +kernel
theorem dX3_readCalls_23 : decode cX3_readCalls 23 = .ok (.getfield 9, 3) := by decide +kernel
theorem dX3_readCalls_26 : decode cX3_readCalls 26 = .ok (.invokevirtual 104, 3) := by decide +kernel
theorem dX3_readCalls_29 : decode cX3_readCalls 29 = .ok (.invokestatic 108, 3) := by decide +kernel
theorem dX3_readCalls_32 : decode cX3_readCalls 32 = .ok (.ifCond .eq 33, 3) := by decide +kernel
theorem dX3_readCalls_35 : decode cX3_readCalls 35 = .ok (.aload_n 1, 1) := by decide +kernel
theorem dX3_readCalls_36 : decode cX3_readCalls 36 = .ok (.aload_n 0, 1) := by decide +kernel
theorem dX3_readCalls_37 : decode cX3_readCalls 37 = .ok (.getfield 9, 3) := by decide +kernel
theorem dX3_readCalls_40 : decode cX3_readCalls 40 = .ok (.invokevirtual 104, 3) := by decide +kernel
theorem dX3_readCalls_43 : decode cX3_readCalls 43 = .ok (.invokevirtual 111, 3) := by decide +kernel
theorem dX3_readCalls_46 : decode cX3_readCalls 46 = .ok (.aload_n 0, 1) := by decide +kernel
theorem dX3_readCalls_47 : decode cX3_readCalls 47 = .ok (.getfield 9, 3) := by decide +kernel
theorem dX3_readCalls_50 : decode cX3_readCalls 50 = .ok (.dup, 1) := by decide +kernel
theorem dX3_readCalls_51 : decode cX3_readCalls 51 = .ok (.getfield 32, 3) := by decide +kernel
theorem dX3_readCalls_54 : decode cX3_readCalls 54 = .ok (.iconst 1, 1) := by decide +kernel
theorem dX3_readCalls_55 : decode cX3_readCalls 55 = .ok (.iadd, 1) := by decide +kernel
theorem dX3_readCalls_56 : decode cX3_readCalls 56 = .ok (.putfield 32, 3) := by decide +kernel
theorem dX3_readCalls_59 : decode cX3_readCalls 59 = .ok (.iinc 2 1, 3) := by decide +kernel
theorem dX3_readCalls_62 : decode cX3_readCalls 62 = .ok (.goto (-46), 3) := by decide +kernel
theorem dX3_readCalls_65 : decode cX3_readCalls 65 = .ok (.aload_n 1, 1) := by decide +kernel
theorem dX3_readCalls_66 : decode cX3_readCalls 66 = .ok (.getfield 115, 3) := by decide +kernel
theorem dX3_readCalls_69 : decode cX3_readCalls 69 = .ok (.ifCond .le 7, 3) := by decide +kernel
theorem dX3_readCalls_72 : decode cX3_readCalls 72 = .ok (.iconst 1, 1) := by decide +kernel
theorem dX3_readCalls_73 : decode cX3_readCalls 73 = .ok (.goto 4, 3) := by decide +kernel
theorem dX3_readCalls_76 : decode cX3_readCalls 76 = .ok (.iconst 0, 1) := by decide +kernel
theorem dX3_readCalls_77 : decode cX3_readCalls 77 = .ok (.ireturn, 1) := by decide +kernel
theorem dX4_init_0 : decode cX4_init 0 = .ok (.aload_n 0, 1) := by decide +kernel
theorem dX4_init_1 : decode cX4_init 1 = .ok (.invokespecial 3, 3) := by decide +kernel
theorem dX4_init_4 : decode cX4_init 4 = .ok (.aload_n 0, 1) := by decide +kernel
theorem dX4_init_5 : decode cX4_init 5 = .ok (.sipush 300, 3) := by decide +kernel
theorem dX4_init_8 : decode cX4_init 8 = .ok (.newarray .byte, 2) := by decide +kernel
theorem dX4_init_10 : decode cX4_init 10 = .ok (.putfield 9, 3) := by decide +kernel
theorem dX4_init_13 : decode cX4_init 13 = .ok (.return_, 1) := by decide +kernel
theorem dX4_append_0 : decode cX4_append 0 = .ok (.bipush 24, 2) := by decide +kernel
theorem dX4_append_2 : decode cX4_append 2 = .ok (.istore_n 2, 1) := by decide +kernel
theorem dX4_append_3 : decode cX4_append 3 = .ok (.iload_n 2, 1) := by decide +kernel
theorem dX4_append_4 : decode cX4_append 4 = .ok (.ifCond .lt 42, 3) := by decide +kernel
theorem dX4_append_7 : decode cX4_append 7 = .ok (.aload_n 0, 1) := by decide +kernel
theorem dX4_append_8 : decode cX4_append 8 = .ok (.getfield 15, 3) := by decide +kernel
theorem dX4_append_11 : decode cX4_append 11 = .ok (.sipush 300, 3) := by decide +kernel
theorem dX4_append_14 : decode cX4_append 14 = .ok (.if_icmp .ge 32, 3) := by decide +kernel
theorem dX4_append_17 : decode cX4_append 17 = .ok (.aload_n 0, 1) := by decide +kernel
theorem dX4_append_18 : decode cX4_append 18 = .ok (.getfield 9, 3) := by decide +kernel
theorem dX4_append_21 : decode cX4_append 21 = .ok (.aload_n 0, 1) := by decide +kernel
theorem dX4_append_22 : decode cX4_append 22 = .ok (.getfield 15, 3) := by decide +kernel
theorem dX4_append_25 : decode cX4_append 25 = .ok (.iload_n 1, 1) := by decide +kernel
theorem dX4_append_26 : decode cX4_append 26 = .ok (.iload_n 2, 1) := by decide +kernel
theorem dX4_append_27 : decode cX4_append 27 = .ok (.ishr, 1) := by decide +kernel
theorem dX4_append_28 : decode cX4_append 28 = .ok (.i2b, 1) := by decide +kernel
theorem dX4_append_29 : decode cX4_append 29 = .ok (.bastore, 1) := by decide +kernel
theorem dX4_append_30 : decode cX4_append 30 = .ok (.aload_n 0, 1) := by decide +kernel
theorem dX4_append_31 : decode cX4_append 31 = .ok (.dup, 1) := by decide +kernel
theorem dX4_append_32 : decode cX4_append 32 = .ok (.getfield 15, 3) := by decide +kernel
theorem dX4_append_35 : decode cX4_append 35 = .ok (.iconst 1, 1) := by decide +kernel
theorem dX4_append_36 : decode cX4_append 36 = .ok (.iadd, 1) := by decide +kernel
theorem dX4_append_37 : decode cX4_append 37 = .ok (.putfield 15, 3) := by decide +kernel
theorem dX4_append_40 : decode cX4_append 40 = .ok (.iinc 2 (-8), 3) := by decide +kernel
theorem dX4_append_43 : decode cX4_append 43 = .ok (.goto (-40), 3) := by decide +kernel
theorem dX4_append_46 : decode cX4_append 46 = .ok (.return_, 1) := by decide +kernel
theorem dX4_openText_0 : decode cX4_openText 0 = .ok (.aload_n 0, 1) := by decide +kernel
theorem dX4_openText_1 : decode cX4_openText 1 = .ok (.iload_n 1, 1) := by decide +kernel
theorem dX4_openText_2 : decode cX4_openText 2 = .ok (.sipush 300, 3) := by decide +kernel
theorem dX4_openText_5 : decode cX4_openText 5 = .ok (.invokestatic 19, 3) := by decide +kernel
theorem dX4_openText_8 : decode cX4_openText 8 = .ok (.putfield 25, 3) := by decide +kernel
theorem dX4_openText_11 : decode cX4_openText 11 = .ok (.aload_n 0, 1) := by decide +kernel
theorem dX4_openText_12 : decode cX4_openText 12 = .ok (.iconst 0, 1) := by decide +kernel
theorem dX4_openText_13 : decode cX4_openText 13 = .ok (.putfield 28, 3) := by decide +kernel
theorem dX4_openText_16 : decode cX4_openText 16 = .ok (.aload_n 0, 1) := by decide +kernel
theorem dX4_openText_17 : decode cX4_openText 17 = .ok (.iconst 0, 1) := by decide +kernel
theorem dX4_openText_18 : decode cX4_openText 18 = .ok (.putfield 15, 3) := by decide +kernel
theorem dX4_openText_21 : decode cX4_openText 21 = .ok (.return_, 1) := by decide +kernel
theorem dX4_next_0 : decode cX4_next 0 = .ok (.aload_n 0, 1) := by decide +kernel
theorem dX4_next_1 : decode cX4_next 1 = .ok (.getfield 28, 3) := by decide +kernel
theorem dX4_next_4 : decode cX4_next 4 = .ok (.ifCond .lt 14, 3) := by decide +kernel
theorem dX4_next_7 : decode cX4_next 7 = .ok (.aload_n 0, 1) := by decide +kernel
theorem dX4_next_8 : decode cX4_next 8 = .ok (.getfield 28, 3) := by decide +kernel
theorem dX4_next_11 : decode cX4_next 11 = .ok (.aload_n 0, 1) := by decide +kernel
theorem dX4_next_12 : decode cX4_next 12 = .ok (.getfield 25, 3) := by decide +kernel
theorem dX4_next_15 : decode cX4_next 15 = .ok (.if_icmp .lt 7, 3) := by decide +kernel
theorem dX4_next_18 : decode cX4_next 18 = .ok (.iconst (-1), 1) := by decide +kernel
theorem dX4_next_19 : decode cX4_next 19 = .ok (.goto 16, 3) := by decide +kernel
theorem dX4_next_22 : decode cX4_next 22 = .ok (.aload_n 0, 1) := by decide +kernel
theorem dX4_next_23 : decode cX4_next 23 = .ok (.getfield 9, 3) := by decide +kernel
theorem dX4_next_26 : decode cX4_next 26 = .ok (.aload_n 0, 1) := by decide +kernel
theorem dX4_next_27 : decode cX4_next 27 = .ok (.getfield 28, 3) := by decide +kernel
theorem dX4_next_30 : decode cX4_next 30 = .ok (.baload, 1) := by decide +kernel
theorem dX4_next_31 : decode cX4_next 31 = .ok (.sipush 255, 3) := by decide +kernel
theorem dX4_next_34 : decode cX4_next 34 = .ok (.iand, 1) := by decide +kernel
theorem dX4_next_35 : decode cX4_next 35 = .ok (.ireturn, 1) := by decide +kernel
theorem dX4_isAtEndOfPart_0 : decode cX4_isAtEndOfPart 0 = .ok (.aload_n 0, 1) := by decide +kernel
theorem dX4_isAtEndOfPart_1 : decode cX4_isAtEndOfPart 1 = .ok (.invokevirtual 31, 3) := by decide +kernel
theorem dX4_isAtEndOfPart_4 : decode cX4_isAtEndOfPart 4 = .ok (.istore_n 1, 1) := by decide +kernel
theorem dX4_isAtEndOfPart_5 : decode cX4_isAtEndOfPart 5 = .ok (.iload_n 1, 1) := by decide +kernel
theorem dX4_isAtEndOfPart_6 : decode cX4_isAtEndOfPart 6 = .ok (.iconst (-1), 1) := by decide +kernel
theorem dX4_isAtEndOfPart_7 : decode cX4_isAtEndOfPart 7 = .ok (.if_icmp .eq 9, 3) := by decide +kernel
theorem dX4_isAtEndOfPart_10 : decode cX4_isAtEndOfPart 10 = .ok (.iload_n 1, 1) := by decide +kernel
theorem dX4_isAtEndOfPart_11 : decode cX4_isAtEndOfPart 11 = .ok (.bipush 59, 2) := by decide +kernel
theorem dX4_isAtEndOfPart_13 : decode cX4_isAtEndOfPart 13 = .ok (.if_icmp .ne 7, 3) := by decide +kernel
theorem dX4_isAtEndOfPart_16 : decode cX4_isAtEndOfPart 16 = .ok (.iconst 1, 1) := by decide +kernel
theorem dX4_isAtEndOfPart_17 : decode cX4_isAtEndOfPart 17 = .ok (.goto 4, 3) := by decide +kernel
theorem dX4_isAtEndOfPart_20 : decode cX4_isAtEndOfPart 20 = .ok (.iconst 0, 1) := by decide +kernel
theorem dX4_isAtEndOfPart_21 : decode cX4_isAtEndOfPart 21 = .ok (.ireturn, 1) := by decide +kernel
theorem dX4_take_0 : decode cX4_take 0 = .ok (.aload_n 0, 1) := by decide +kernel
theorem dX4_take_1 : decode cX4_take 1 = .ok (.invokevirtual 31, 3) := by decide +kernel
theorem dX4_take_4 : decode cX4_take 4 = .ok (.iload_n 1, 1) := by decide +kernel
theorem dX4_take_5 : decode cX4_take 5 = .ok (.if_icmp .eq 5, 3) := by decide +kernel
theorem dX4_take_8 : decode cX4_take 8 = .ok (.iconst 0, 1) := by decide +kernel
theorem dX4_take_9 : decode cX4_take 9 = .ok (.ireturn, 1) := by decide +kernel
theorem dX4_take_10 : decode cX4_take 10 = .ok (.aload_n 0, 1) := by decide +kernel
theorem dX4_take_11 : decode cX4_take 11 = .ok (.dup, 1) := by decide +kernel
theorem dX4_take_12 : decode cX4_take 12 = .ok (.getfield 28, 3) := by decide +kernel
theorem dX4_take_15 : decode cX4_take 15 = .ok (.iconst 1, 1) := by decide +kernel
theorem dX4_take_16 : decode cX4_take 16 = .ok (.iadd, 1) := by decide +kernel
theorem dX4_take_17 : decode cX4_take 17 = .ok (.putfield 28, 3) := by decide +kernel
theorem dX4_take_20 : decode cX4_take 20 = .ok (.iconst 1, 1) := by decide +kernel
theorem dX4_take_21 : decode cX4_take 21 = .ok (.ireturn, 1) := by decide +kernel
theorem dX4_takeNumber_0 : decode cX4_takeNumber 0 = .ok (.aload_n 0, 1) := by decide +kernel
theorem dX4_takeNumber_1 : decode cX4_takeNumber 1 = .ok (.getfield 28, 3) := by decide +kernel
theorem dX4_takeNumber_4 : decode cX4_takeNumber 4 = .ok (.istore_n 3, 1) := by decide +kernel
theorem dX4_takeNumber_5 : decode cX4_takeNumber 5 = .ok (.iconst 0, 1) := by decide +kernel
theorem dX4_takeNumber_6 : decode cX4_takeNumber 6 = .ok (.istore 4, 2) := by decide +kernel
theorem dX4_takeNumber_8 : decode cX4_takeNumber 8 = .ok (.iconst 0, 1) := by decide +kernel
theorem dX4_takeNumber_9 : decode cX4_takeNumber 9 = .ok (.istore 5, 2) := by decide +kernel
theorem dX4_takeNumber_11 : decode cX4_takeNumber 11 = .ok (.iload 5, 2) := by decide +kernel
theorem dX4_takeNumber_13 : decode cX4_takeNumber 13 = .ok (.iload_n 1, 1) := by decide +kernel
theorem dX4_takeNumber_14 : decode cX4_takeNumber 14 = .ok (.if_icmp .ge 44, 3) := by decide +kernel
theorem dX4_takeNumber_17 : decode cX4_takeNumber 17 = .ok (.aload_n 0, 1) := by decide +kernel
theorem dX4_takeNumber_18 : decode cX4_takeNumber 18 = .ok (.invokevirtual 31, 3) := by decide +kernel
theorem dX4_takeNumber_21 : decode cX4_takeNumber 21 = .ok (.invokestatic 35, 3) := by decide +kernel
theorem dX4_takeNumber_24 : decode cX4_takeNumber 24 = .ok (.ifCond .eq 34, 3) := by decide +kernel
theorem dX4_takeNumber_27 : decode cX4_takeNumber 27 = .ok (.iload 4, 2) := by decide +kernel
theorem dX4_takeNumber_29 : decode cX4_takeNumber 29 = .ok (.bipush 10, 2) := by decide +kernel
theorem dX4_takeNumber_31 : decode cX4_takeNumber 31 = .ok (.imul, 1) := by decide +kernel
theorem dX4_takeNumber_32 : decode cX4_takeNumber 32 = .ok (.aload_n 0, 1) := by decide +kernel
theorem dX4_takeNumber_33 : decode cX4_takeNumber 33 = .ok (.invokevirtual 31, 3) := by decide +kernel
theorem dX4_takeNumber_36 : decode cX4_takeNumber 36 = .ok (.iadd, 1) := by decide +kernel
theorem dX4_takeNumber_37 : decode cX4_takeNumber 37 = .ok (.bipush 48, 2) := by decide +kernel
theorem dX4_takeNumber_39 : decode cX4_takeNumber 39 = .ok (.isub, 1) := by decide +kernel
theorem dX4_takeNumber_40 : decode cX4_takeNumber 40 = .ok (.istore 4, 2) := by decide +kernel
theorem dX4_takeNumber_42 : decode cX4_takeNumber 42 = .ok (.aload_n 0, 1) := by decide +kernel
theorem dX4_takeNumber_43 : decode cX4_takeNumber 43 = .ok (.dup, 1) := by decide +kernel
theorem dX4_takeNumber_44 : decode cX4_takeNumber 44 = .ok (.getfield 28, 3) := by decide +kernel
theorem dX4_takeNumber_47 : decode cX4_takeNumber 47 = .ok (.iconst 1, 1) := by decide +kernel
theorem dX4_takeNumber_48 : decode cX4_takeNumber 48 = .ok (.iadd, 1) := by decide +kernel
theorem dX4_takeNumber_49 : decode cX4_takeNumber 49 = .ok (.putfield 28, 3) := by decide +kernel
theorem dX4_takeNumber_52 : decode cX4_takeNumber 52 = .ok (.iinc 5 1, 3) := by decide +kernel
theorem dX4_takeNumber_55 : decode cX4_takeNumber 55 = .ok (.goto (-44), 3) := by decide +kernel
theorem dX4_takeNumber_58 : decode cX4_takeNumber 58 = .ok (.iload 5, 2) := by decide +kernel
theorem dX4_takeNumber_60 : decode cX4_takeNumber 60 = .ok (.ifCond .eq 13, 3) := by decide +kernel
theorem dX4_takeNumber_63 : decode cX4_takeNumber 63 = .ok (.aload_n 0, 1) := by decide +kernel
theorem dX4_takeNumber_64 : decode cX4_takeNumber 64 = .ok (.invokevirtual 31, 3) := by decide +kernel
theorem dX4_takeNumber_67 : decode cX4_takeNumber 67 = .ok (.invokestatic 35, 3) := by decide +kernel
theorem dX4_takeNumber_70 : decode cX4_takeNumber 70 = .ok (.ifCond .eq 5, 3) := by decide +kernel
theorem dX4_takeNumber_73 : decode cX4_takeNumber 73 = .ok (.iconst (-1), 1) := by decide +kernel
theorem dX4_takeNumber_74 : decode cX4_takeNumber 74 = .ok (.ireturn, 1) := by decide +kernel
theorem dX4_takeNumber_75 : decode cX4_takeNumber 75 = .ok (.iload 4, 2) := by decide +kernel
theorem dX4_takeNumber_77 : decode cX4_takeNumber 77 = .ok (.iload_n 2, 1) := by decide +kernel
theorem dX4_takeNumber_78 : decode cX4_takeNumber 78 = .ok (.if_icmp .le 11, 3) := by decide +kernel
theorem dX4_takeNumber_81 : decode cX4_takeNumber 81 = .ok (.aload_n 0, 1) := by decide +kernel
theorem dX4_takeNumber_82 : decode cX4_takeNumber 82 = .ok (.iload_n 3, 1) := by decide +kernel
theorem dX4_takeNumber_83 : decode cX4_takeNumber 83 = .ok (.invokevirtual 39, 3) := by decide +kernel
theorem dX4_takeNumber_86 : decode cX4_takeNumber 86 = .ok (.goto 5, 3) := by decide +kernel
theorem dX4_takeNumber_89 : decode cX4_takeNumber 89 = .ok (.iload 4, 2) := by decide +kernel
theorem dX4_takeNumber_91 : decode cX4_takeNumber 91 = .ok (.ireturn, 1) := by decide +kernel
theorem dX4_tearAt_0 : decode cX4_tearAt 0 = .ok (.aload_n 0, 1) := by decide +kernel
theorem dX4_tearAt_1 : decode cX4_tearAt 1 = .ok (.iload_n 1, 1) := by decide +kernel
theorem dX4_tearAt_2 : decode cX4_tearAt 2 = .ok (.putfield 28, 3) := by decide +kernel
theorem dX4_tearAt_5 : decode cX4_tearAt 5 = .ok (.iconst (-1), 1) := by decide +kernel
theorem dX4_tearAt_6 : decode cX4_tearAt 6 = .ok (.ireturn, 1) := by decide +kernel
theorem dX4_readHead_0 : decode cX4_readHead 0 = .ok (.aload_n 0, 1) := by decide +kernel
theorem dX4_readHead_1 : decode cX4_readHead 1 = .ok (.bipush 116, 2) := by decide +kernel
theorem dX4_readHead_3 : decode cX4_readHead 3 = .ok (.invokevirtual 43, 3) := by decide +kernel
theorem dX4_readHead_6 : decode cX4_readHead 6 = .ok (.ifCond .ne 5, 3) := by decide +kernel
theorem dX4_readHead_9 : decode cX4_readHead 9 = .ok (.iconst (-1), 1) := by decide +kernel
theorem dX4_readHead_10 : decode cX4_readHead 10 = .ok (.ireturn, 1) := by decide +kernel
theorem dX4_readHead_11 : decode cX4_readHead 11 = .ok (.aload_n 0, 1) := by decide +kernel
theorem dX4_readHead_12 : decode cX4_readHead 12 = .ok (.iconst 4, 1) := by decide +kernel
theorem dX4_readHead_13 : decode cX4_readHead 13 = .ok (.sipush 9999, 3) := by decide +kernel
theorem dX4_readHead_16 : decode cX4_readHead 16 = .ok (.invokevirtual 47, 3) := by decide +kernel
theorem dX4_readHead_19 : decode cX4_readHead 19 = .ok (.istore_n 1, 1) := by decide +kernel
theorem dX4_readHead_20 : decode cX4_readHead 20 = .ok (.aload_n 0, 1) := by decide +kernel
theorem dX4_readHead_21 : decode cX4_readHead 21 = .ok (.invokevirtual 50, 3) := by decide +kernel
theorem dX4_readHead_24 : decode cX4_readHead 24 = .ok (.ifCond .eq 7, 3) := by decide +kernel
theorem dX4_readHead_27 : decode cX4_readHead 27 = .ok (.iload_n 1, 1) := by decide +kernel
theorem dX4_readHead_28 : decode cX4_readHead 28 = .ok (.goto 4, 3) := by decide +kernel
theorem dX4_readHead_31 : decode cX4_readHead 31 = .ok (.iconst (-1), 1) := by decide +kernel
theorem dX4_readHead_32 : decode cX4_readHead 32 = .ok (.ireturn, 1) := by decide +kernel
theorem dX5_init_0 : decode cX5_init 0 = .ok (.aload_n 0, 1) := by decide +kernel
theorem dX5_init_1 : decode cX5_init 1 = .ok (.invokespecial 1, 3) := by decide +kernel
theorem dX5_init_4 : decode cX5_init 4 = .ok (.aload_n 0, 1) := by decide +kernel
theorem dX5_init_5 : decode cX5_init 5 = .ok (.new 7, 3) := by decide +kernel
theorem dX5_init_8 : decode cX5_init 8 = .ok (.dup, 1) := by decide +kernel
theorem dX5_init_9 : decode cX5_init 9 = .ok (.invokespecial 9, 3) := by decide +kernel
theorem dX5_init_12 : decode cX5_init 12 = .ok (.putfield 10, 3) := by decide +kernel
theorem dX5_init_15 : decode cX5_init 15 = .ok (.aload_n 0, 1) := by decide +kernel
theorem dX5_init_16 : decode cX5_init 16 = .ok (.bipush 8, 2) := by decide +kernel
theorem dX5_init_18 : decode cX5_init 18 = .ok (.anewarray 16, 3) := by decide +kernel
theorem dX5_init_21 : decode cX5_init 21 = .ok (.putfield 18, 3) := by decide +kernel
theorem dX5_init_24 : decode cX5_init 24 = .ok (.aload_n 0, 1) := by decide +kernel
theorem dX5_init_25 : decode cX5_init 25 = .ok (.new 22, 3) := by decide +kernel
theorem dX5_init_28 : decode cX5_init 28 = .ok (.dup, 1) := by decide +kernel
theorem dX5_init_29 : decode cX5_init 29 = .ok (.invokespecial 24, 3) := by decide +kernel
theorem dX5_init_32 : decode cX5_init 32 = .ok (.putfield 25, 3) := by decide +kernel
theorem dX5_init_35 : decode cX5_init 35 = .ok (.aload_n 0, 1) := by decide +kernel
theorem dX5_init_36 : decode cX5_init 36 = .ok (.iconst 0, 1) := by decide +kernel
theorem dX5_init_37 : decode cX5_init 37 = .ok (.putfield 29, 3) := by decide +kernel
theorem dX5_init_40 : decode cX5_init 40 = .ok (.aload_n 0, 1) := by decide +kernel
theorem dX5_init_41 : decode cX5_init 41 = .ok (.sipush 10000, 3) := by decide +kernel
theorem dX5_init_44 : decode cX5_init 44 = .ok (.putfield 33, 3) := by decide +kernel
theorem dX5_init_47 : decode cX5_init 47 = .ok (.aload_n 0, 1) := by decide +kernel
theorem dX5_init_48 : decode cX5_init 48 = .ok (.bipush 10, 2) := by decide +kernel
theorem dX5_init_50 : decode cX5_init 50 = .ok (.putfield 36, 3) := by decide +kernel
theorem dX5_init_53 : decode cX5_init 53 = .ok (.return_, 1) := by decide +kernel
theorem dX5_feed_0 : decode cX5_feed 0 = .ok (.aload_n 0, 1) := by decide +kernel
theorem dX5_feed_1 : decode cX5_feed 1 = .ok (.getfield 10, 3) := by decide +kernel
theorem dX5_feed_4 : decode cX5_feed 4 = .ok (.getfield 39, 3) := by decide +kernel
theorem dX5_feed_7 : decode cX5_feed 7 = .ok (.sipush 280, 3) := by decide +kernel
theorem dX5_feed_10 : decode cX5_feed 10 = .ok (.if_icmp .le 5, 3) := by decide +kernel
theorem dX5_feed_13 : decode cX5_feed 13 = .ok (.iconst (-1), 1) := by decide +kernel
theorem dX5_feed_14 : decode cX5_feed 14 = .ok (.ireturn, 1) := by decide +kernel
theorem dX5_feed_15 : decode cX5_feed 15 = .ok (.aload_n 0, 1) := by decide +kernel
theorem dX5_feed_16 : decode cX5_feed 16 = .ok (.getfield 10, 3) := by decide +kernel
theorem dX5_feed_19 : decode cX5_feed 19 = .ok (.iload_n 1, 1) := by decide +kernel
theorem dX5_feed_20 : decode cX5_feed 20 = .ok (.invokevirtual 42, 3) := by decide +kernel
theorem dX5_feed_23 : decode cX5_feed 23 = .ok (.aload_n 0, 1) := by decide +kernel
theorem dX5_feed_24 : decode cX5_feed 24 = .ok (.getfield 10, 3) := by decide +kernel
theorem dX5_feed_27 : decode cX5_feed 27 = .ok (.iload_n 2, 1) := by decide +kernel
theorem dX5_feed_28 : decode cX5_feed 28 = .ok (.invokevirtual 42, 3) := by decide +kernel
theorem dX5_feed_31 : decode cX5_feed 31 = .ok (.aload_n 0, 1) := by decide +kernel
theorem dX5_feed_32 : decode cX5_feed 32 = .ok (.getfield 10, 3) := by decide +kernel
theorem dX5_feed_35 : decode cX5_feed 35 = .ok (.iload_n 3, 1) := by decide +kernel
theorem dX5_feed_36 : decode cX5_feed 36 = .ok (.invokevirtual 42, 3) := by decide +kernel
theorem dX5_feed_39 : decode cX5_feed 39 = .ok (.aload_n 0, 1) := by decide +kernel
theorem dX5_feed_40 : decode cX5_feed 40 = .ok (.getfield 10, 3) := by decide +kernel
theorem dX5_feed_43 : decode cX5_feed 43 = .ok (.iload 4, 2) := by decide +kernel
theorem dX5_feed_45 : decode cX5_feed 45 = .ok (.invokevirtual 42, 3) := by decide +kernel
theorem dX5_feed_48 : decode cX5_feed 48 = .ok (.aload_n 0, 1) := by decide +kernel
theorem dX5_feed_49 : decode cX5_feed 49 = .ok (.getfield 10, 3) := by decide +kernel
theorem dX5_feed_52 : decode cX5_feed 52 = .ok (.iload 5, 2) := by decide +kernel
theorem dX5_feed_54 : decode cX5_feed 54 = .ok (.invokevirtual 42, 3) := by decide +kernel
theorem dX5_feed_57 : decode cX5_feed 57 = .ok (.aload_n 0, 1) := by decide +kernel
theorem dX5_feed_58 : decode cX5_feed 58 = .ok (.getfield 10, 3) := by decide +kernel
theorem dX5_feed_61 : decode cX5_feed 61 = .ok (.getfield 39, 3) := by decide +kernel
theorem dX5_feed_64 : decode cX5_feed 64 = .ok (.ireturn, 1) := by decide +kernel
theorem dX5_picture_0 : decode cX5_picture 0 = .ok (.iload_n 1, 1) := by decide +kernel
theorem dX5_picture_1 : decode cX5_picture 1 = .ok (.ifCond .lt 23, 3) := by decide +kernel
theorem dX5_picture_4 : decode cX5_picture 4 = .ok (.iload_n 1, 1) := by decide +kernel
theorem dX5_picture_5 : decode cX5_picture 5 = .ok (.aload_n 0, 1) := by decide +kernel
theorem dX5_picture_6 : decode cX5_picture 6 = .ok (.getfield 10, 3) := by decide +kernel
theorem dX5_picture_9 : decode cX5_picture 9 = .ok (.getfield 39, 3) := by decide +kernel
theorem dX5_picture_12 : decode cX5_picture 12 = .ok (.if_icmp .gt 12, 3) := by decide +kernel
theorem dX5_picture_15 : decode cX5_picture 15 = .ok (.aload_n 0, 1) := by decide +kernel
theorem dX5_picture_16 : decode cX5_picture 16 = .ok (.getfield 29, 3) := by decide +kernel
theorem dX5_picture_19 : decode cX5_picture 19 = .ok (.bipush 8, 2) := by decide +kernel
theorem dX5_picture_21 : decode cX5_picture 21 = .ok (.if_icmp .lt 5, 3) := by decide +kernel
theorem dX5_picture_24 : decode cX5_picture 24 = .ok (.iconst (-1), 1) := by decide +kernel
theorem dX5_picture_25 : decode cX5_picture 25 = .ok (.ireturn, 1) := by decide +kernel
theorem dX5_picture_26 : decode cX5_picture 26 = .ok (.aload_n 0, 1) := by decide +kernel
theorem dX5_picture_27 : decode cX5_picture 27 = .ok (.getfield 10, 3) := by decide +kernel
theorem dX5_picture_30 : decode cX5_picture 30 = .ok (.iload_n 1, 1) := by decide +kernel
theorem dX5_picture_31 : decode cX5_picture 31 = .ok (.invokevirtual 46, 3) := by decide +kernel
theorem dX5_picture_34 : decode cX5_picture 34 = .ok (.aload_n 0, 1) := by decide +kernel
theorem dX5_picture_35 : decode cX5_picture 35 = .ok (.getfield 10, 3) := by decide +kernel
theorem dX5_picture_38 : decode cX5_picture 38 = .ok (.invokevirtual 49, 3) := by decide +kernel
theorem dX5_picture_41 : decode cX5_picture 41 = .ok (.istore_n 2, 1) := by decide +kernel
theorem dX5_picture_42 : decode cX5_picture 42 = .ok (.iload_n 2, 1) := by decide +kernel
theorem dX5_picture_43 : decode cX5_picture 43 = .ok (.iconst (-1), 1) := by decide +kernel
theorem dX5_picture_44 : decode cX5_picture 44 = .ok (.if_icmp .eq 11, 3) := by decide +kernel
theorem dX5_picture_47 : decode cX5_picture 47 = .ok (.aload_n 0, 1) := by decide +kernel
theorem dX5_picture_48 : decode cX5_picture 48 = .ok (.iload_n 2, 1) := by decide +kernel
theorem dX5_picture_49 : decode cX5_picture 49 = .ok (.invokevirtual 53, 3) := by decide +kernel
theorem dX5_picture_52 : decode cX5_picture 52 = .ok (.ifCond .eq 6, 3) := by decide +kernel
theorem dX5_picture_55 : decode cX5_picture 55 = .ok (.bipush (-2), 2) := by decide +kernel
theorem dX5_picture_57 : decode cX5_picture 57 = .ok (.ireturn, 1) := by decide +kernel
theorem dX5_picture_58 : decode cX5_picture 58 = .ok (.new 16, 3) := by decide +kernel
theorem dX5_picture_61 : decode cX5_picture 61 = .ok (.dup, 1) := by decide +kernel
theorem dX5_picture_62 : decode cX5_picture 62 = .ok (.iload_n 2, 1) := by decide +kernel
theorem dX5_picture_63 : decode cX5_picture 63 = .ok (.invokespecial 57, 3) := by decide +kernel
theorem dX5_picture_66 : decode cX5_picture 66 = .ok (.astore_n 3, 1) := by decide +kernel
theorem dX5_picture_67 : decode cX5_picture 67 = .ok (.new 59, 3) := by decide +kernel
theorem dX5_picture_70 : decode cX5_picture 70 = .ok (.dup, 1) := by decide +kernel
theorem dX5_picture_71 : decode cX5_picture 71 = .ok (.aload_n 0, 1) := by decide +kernel
theorem dX5_picture_72 : decode cX5_picture 72 = .ok (.getfield 10, 3) := by decide +kernel
theorem dX5_picture_75 : decode cX5_picture 75 = .ok (.aload_n 3, 1) := by decide +kernel
theorem dX5_picture_76 : decode cX5_picture 76 = .ok (.invokespecial 61, 3) := by decide +kernel
theorem dX5_picture_79 : decode cX5_picture 79 = .ok (.invokevirtual 64, 3) := by decide +kernel
theorem dX5_picture_82 : decode cX5_picture 82 = .ok (.aload_n 3, 1) := by decide +kernel
theorem dX5_picture_83 : decode cX5_picture 83 = .ok (.invokevirtual 67, 3) := by decide +kernel
theorem dX5_picture_86 : decode cX5_picture 86 = .ok (.aload_n 0, 1) := by decide +kernel
theorem dX5_picture_87 : decode cX5_picture 87 = .ok (.getfield 25, 3) := by decide +kernel
theorem dX5_picture_90 : decode cX5_picture 90 = .ok (.aload_n 3, 1) := by decide +kernel
theorem dX5_picture_91 : decode cX5_picture 91 = .ok (.invokevirtual 70, 3) := by decide +kernel
theorem dX5_picture_94 : decode cX5_picture 94 = .ok (.aload_n 0, 1) := by decide +kernel
theorem dX5_picture_95 : decode cX5_picture 95 = .ok (.getfield 18, 3) := by decide +kernel
theorem dX5_picture_98 : decode cX5_picture 98 = .ok (.aload_n 0, 1) := by decide +kernel
theorem dX5_picture_99 : decode cX5_picture 99 = .ok (.getfield 29, 3) := by decide +kernel
theorem dX5_picture_102 : decode cX5_picture 102 = .ok (.aload_n 3, 1) := by decide +kernel
theorem dX5_picture_103 : decode cX5_picture 103 = .ok (.aastore, 1) := by decide +kernel
theorem dX5_picture_104 : decode cX5_picture 104 = .ok (.aload_n 0, 1) := by decide +kernel
theorem dX5_picture_105 : decode cX5_picture 105 = .ok (.dup, 1) := by decide +kernel
theorem dX5_picture_106 : decode cX5_picture 106 = .ok (.getfield 29, 3) := by decide +kernel
theorem dX5_picture_109 : decode cX5_picture 109 = .ok (.iconst 1, 1) := by decide +kernel
theorem dX5_picture_110 : decode cX5_picture 110 = .ok (.iadd, 1) := by decide +kernel
theorem dX5_picture_111 : decode cX5_picture 111 = .ok (.putfield 29, 3) := by decide +kernel
theorem dX5_picture_114 : decode cX5_picture 114 = .ok (.aload_n 0, 1) := by decide +kernel
theorem dX5_picture_115 : decode cX5_picture 115 = .ok (.getfield 29, 3) := by decide +kernel
theorem dX5_picture_118 : decode cX5_picture 118 = .ok (.iconst 1, 1) := by decide +kernel
theorem dX5_picture_119 : decode cX5_picture 119 = .ok (.isub, 1) := by decide +kernel
theorem dX5_picture_120 : decode cX5_picture 120 = .ok (.ireturn, 1) := by decide +kernel
theorem dX5_torn_0 : decode cX5_torn 0 = .ok (.aload_n 0, 1) := by decide +kernel
theorem dX5_torn_1 : decode cX5_torn 1 = .ok (.iload_n 1, 1) := by decide +kernel
theorem dX5_torn_2 : decode cX5_torn 2 = .ok (.invokevirtual 74, 3) := by decide +kernel
theorem dX5_torn_5 : decode cX5_torn 5 = .ok (.astore_n 2, 1) := by decide +kernel
theorem dX5_torn_6 : decode cX5_torn 6 = .ok (.aload_n 2, 1) := by decide +kernel
theorem dX5_torn_7 : decode cX5_torn 7 = .ok (.ifnonnull 7, 3) := by decide +kernel
theorem dX5_torn_10 : decode cX5_torn 10 = .ok (.iconst (-1), 1) := by decide +kernel
theorem dX5_torn_11 : decode cX5_torn 11 = .ok (.goto 7, 3) := by decide +kernel
theorem dX5_torn_14 : decode cX5_torn 14 = .ok (.aload_n 2, 1) := by decide +kernel
theorem dX5_torn_15 : decode cX5_torn 15 = .ok (.getfield 78, 3) := by decide +kernel
theorem dX5_torn_18 : decode cX5_torn 18 = .ok (.ireturn, 1) := by decide +kernel
theorem dX5_look_0 : decode cX5_look 0 = .ok (.aload_n 0, 1) := by decide +kernel
theorem dX5_look_1 : decode cX5_look 1 = .ok (.iload_n 1, 1) := by decide +kernel
theorem dX5_look_2 : decode cX5_look 2 = .ok (.iload_n 2, 1) := by decide +kernel
theorem dX5_look_3 : decode cX5_look 3 = .ok (.invokevirtual 81, 3) := by decide +kernel
theorem dX5_look_6 : decode cX5_look 6 = .ok (.astore 4, 2) := by decide +kernel
theorem dX5_look_8 : decode cX5_look 8 = .ok (.aload 4, 2) := by decide +kernel
theorem dX5_look_10 : decode cX5_look 10 = .ok (.ifnonnull 5, 3) := by decide +kernel
theorem dX5_look_13 : decode cX5_look 13 = .ok (.iconst (-1), 1) := by decide +kernel
theorem dX5_look_14 : decode cX5_look 14 = .ok (.ireturn, 1) := by decide +kernel
theorem dX5_look_15 : decode cX5_look 15 = .ok (.iload_n 3, 1) := by decide +kernel
theorem dX5_look_16 : decode cX5_look 16 = .ok (.tableswitch 66 0 4 #[36, 42, 48, 54, 60], 36) := by decide +kernel
theorem dX5_look_52 : decode cX5_look 52 = .ok (.aload 4, 2) := by decide +kernel
theorem dX5_look_54 : decode cX5_look 54 = .ok (.getfield 85, 3) := by decide +kernel
theorem dX5_look_57 : decode cX5_look 57 = .ok (.ireturn, 1) := by decide +kernel
theorem dX5_look_58 : decode cX5_look 58 = .ok (.aload 4, 2) := by decide +kernel
theorem dX5_look_60 : decode cX5_look 60 = .ok (.getfield 90, 3) := by decide +kernel
theorem dX5_look_63 : decode cX5_look 63 = .ok (.ireturn, 1) := by decide +kernel
theorem dX5_look_64 : decode cX5_look 64 = .ok (.aload 4, 2) := by decide +kernel
theorem dX5_look_66 : decode cX5_look 66 = .ok (.getfield 93, 3) := by decide +kernel
theorem dX5_look_69 : decode cX5_look 69 = .ok (.ireturn, 1) := by decide +kernel
theorem dX5_look_70 : decode cX5_look 70 = .ok (.aload 4, 2) := by decide +kernel
theorem dX5_look_72 : decode cX5_look 72 = .ok (.getfield 96, 3) := by decide +kernel
theorem dX5_look_75 : decode cX5_look 75 = .ok (.ireturn, 1) := by decide +kernel
theorem dX5_look_76 : decode cX5_look 76 = .ok (.aload 4, 2) := by decide +kernel
theorem dX5_look_78 : decode cX5_look 78 = .ok (.getfield 99, 3) := by decide +kernel
theorem dX5_look_81 : decode cX5_look 81 = .ok (.ireturn, 1) := by decide +kernel
theorem dX5_look_82 : decode cX5_look 82 = .ok (.iload_n 3, 1) := by decide +kernel
theorem dX5_look_83 : decode cX5_look 83 = .ok (.bipush 10, 2) := by decide +kernel
theorem dX5_look_85 : decode cX5_look 85 = .ok (.if_icmp .ge 7, 3) := by decide +kernel
theorem dX5_look_88 : decode cX5_look 88 = .ok (.iconst (-1), 1) := by decide +kernel
theorem dX5_look_89 : decode cX5_look 89 = .ok (.goto 12, 3) := by decide +kernel
theorem dX5_look_92 : decode cX5_look 92 = .ok (.aload 4, 2) := by decide +kernel
theorem dX5_look_94 : decode cX5_look 94 = .ok (.iload_n 3, 1) := by decide +kernel
theorem dX5_look_95 : decode cX5_look 95 = .ok (.bipush 10, 2) := by decide +kernel
theorem dX5_look_97 : decode cX5_look 97 = .ok (.isub, 1) := by decide +kernel
theorem dX5_look_98 : decode cX5_look 98 = .ok (.invokevirtual 102, 3) := by decide +kernel
theorem dX5_look_101 : decode cX5_look 101 = .ok (.ireturn, 1) := by decide +kernel
theorem dX5_holder_0 : decode cX5_holder 0 = .ok (.aload_n 0, 1) := by decide +kernel
theorem dX5_holder_1 : decode cX5_holder 1 = .ok (.iload_n 1, 1) := by decide +kernel
theorem dX5_holder_2 : decode cX5_holder 2 = .ok (.invokevirtual 74, 3) := by decide +kernel
theorem dX5_holder_5 : decode cX5_holder 5 = .ok (.astore_n 3, 1) := by decide +kernel
theorem dX5_holder_6 : decode cX5_holder 6 = .ok (.aload_n 3, 1) := by decide +kernel
theorem dX5_holder_7 : decode cX5_holder 7 = .ok (.ifnonnull 7, 3) := by decide +kernel
theorem dX5_holder_10 : decode cX5_holder 10 = .ok (.iconst (-1), 1) := by decide +kernel
theorem dX5_holder_11 : decode cX5_holder 11 = .ok (.goto 8, 3) := by decide +kernel
theorem dX5_holder_14 : decode cX5_holder 14 = .ok (.aload_n 3, 1) := by decide +kernel
theorem dX5_holder_15 : decode cX5_holder 15 = .ok (.iload_n 2, 1) := by decide +kernel
theorem dX5_holder_16 : decode cX5_holder 16 = .ok (.invokevirtual 106, 3) := by decide +kernel
theorem dX5_holder_19 : decode cX5_holder 19 = .ok (.ireturn, 1) := by decide +kernel
theorem dX5_rings_0 : decode cX5_rings 0 = .ok (.aload_n 0, 1) := by decide +kernel
theorem dX5_rings_1 : decode cX5_rings 1 = .ok (.iload_n 1, 1) := by decide +kernel
theorem dX5_rings_2 : decode cX5_rings 2 = .ok (.invokevirtual 74, 3) := by decide +kernel
theorem dX5_rings_5 : decode cX5_rings 5 = .ok (.astore_n 2, 1) := by decide +kernel
theorem dX5_rings_6 : decode cX5_rings 6 = .ok (.aload_n 2, 1) := by decide +kernel
theorem dX5_rings_7 : decode cX5_rings 7 = .ok (.ifnonnull 7, 3) := by decide +kernel
theorem dX5_rings_10 : decode cX5_rings 10 = .ok (.iconst (-1), 1) := by decide +kernel
theorem dX5_rings_11 : decode cX5_rings 11 = .ok (.goto 7, 3) := by decide +kernel
theorem dX5_rings_14 : decode cX5_rings 14 = .ok (.aload_n 2, 1) := by decide +kernel
theorem dX5_rings_15 : decode cX5_rings 15 = .ok (.invokevirtual 109, 3) := by decide +kernel
theorem dX5_rings_18 : decode cX5_rings 18 = .ok (.ireturn, 1) := by decide +kernel
theorem dX5_ring_0 : decode cX5_ring 0 = .ok (.aload_n 0, 1) := by decide +kernel
theorem dX5_ring_1 : decode cX5_ring 1 = .ok (.iload_n 1, 1) := by decide +kernel
theorem dX5_ring_2 : decode cX5_ring 2 = .ok (.invokevirtual 74, 3) := by decide +kernel
theorem dX5_ring_5 : decode cX5_ring 5 = .ok (.astore 4, 2) := by decide +kernel
theorem dX5_ring_7 : decode cX5_ring 7 = .ok (.aload 4, 2) := by decide +kernel
theorem dX5_ring_9 : decode cX5_ring 9 = .ok (.ifnonnull 7, 3) := by decide +kernel
theorem dX5_ring_12 : decode cX5_ring 12 = .ok (.iconst (-1), 1) := by decide +kernel
theorem dX5_ring_13 : decode cX5_ring 13 = .ok (.goto 10, 3) := by decide +kernel
theorem dX5_ring_16 : decode cX5_ring 16 = .ok (.aload 4, 2) := by decide +kernel
theorem dX5_ring_18 : decode cX5_ring 18 = .ok (.iload_n 2, 1) := by decide +kernel
theorem dX5_ring_19 : decode cX5_ring 19 = .ok (.iload_n 3, 1) := by decide +kernel
theorem dX5_ring_20 : decode cX5_ring 20 = .ok (.invokevirtual 112, 3) := by decide +kernel
theorem dX5_ring_23 : decode cX5_ring 23 = .ok (.ireturn, 1) := by decide +kernel
theorem dX5_foot_0 : decode cX5_foot 0 = .ok (.aload_n 0, 1) := by decide +kernel
theorem dX5_foot_1 : decode cX5_foot 1 = .ok (.iload_n 1, 1) := by decide +kernel
theorem dX5_foot_2 : decode cX5_foot 2 = .ok (.invokevirtual 74, 3) := by decide +kernel
theorem dX5_foot_5 : decode cX5_foot 5 = .ok (.astore_n 3, 1) := by decide +kernel
theorem dX5_foot_6 : decode cX5_foot 6 = .ok (.aload_n 3, 1) := by decide +kernel
theorem dX5_foot_7 : decode cX5_foot 7 = .ok (.ifnonnull 7, 3) := by decide +kernel
theorem dX5_foot_10 : decode cX5_foot 10 = .ok (.iconst (-1), 1) := by decide +kernel
theorem dX5_foot_11 : decode cX5_foot 11 = .ok (.goto 8, 3) := by decide +kernel
theorem dX5_foot_14 : decode cX5_foot 14 = .ok (.aload_n 3, 1) := by decide +kernel
theorem dX5_foot_15 : decode cX5_foot 15 = .ok (.iload_n 2, 1) := by decide +kernel
theorem dX5_foot_16 : decode cX5_foot 16 = .ok (.invokevirtual 116, 3) := by decide +kernel
theorem dX5_foot_19 : decode cX5_foot 19 = .ok (.ireturn, 1) := by decide +kernel
theorem dX5_through_0 : decode cX5_through 0 = .ok (.aload_n 0, 1) := by decide +kernel
theorem dX5_through_1 : decode cX5_through 1 = .ok (.iload_n 1, 1) := by decide +kernel
theorem dX5_through_2 : decode cX5_through 2 = .ok (.invokevirtual 74, 3) := by decide +kernel
theorem dX5_through_5 : decode cX5_through 5 = .ok (.astore_n 3, 1) := by decide +kernel
theorem dX5_through_6 : decode cX5_through 6 = .ok (.aload_n 3, 1) := by decide +kernel
theorem dX5_through_7 : decode cX5_through 7 = .ok (.ifnull 11, 3) := by decide +kernel
theorem dX5_through_10 : decode cX5_through 10 = .ok (.aload_n 3, 1) := by decide +kernel
theorem dX5_through_11 : decode cX5_through 11 = .ok (.iload_n 2, 1) := by decide +kernel
theorem dX5_through_12 : decode cX5_through 12 = .ok (.invokevirtual 119, 3) := by decide +kernel
theorem dX5_through_15 : decode cX5_through 15 = .ok (.ifnonnull 7, 3) := by decide +kernel
theorem dX5_through_18 : decode cX5_through 18 = .ok (.iconst (-1), 1) := by decide +kernel
theorem dX5_through_19 : decode cX5_through 19 = .ok (.goto 8, 3) := by decide +kernel
theorem dX5_through_22 : decode cX5_through 22 = .ok (.aload_n 3, 1) := by decide +kernel
theorem dX5_through_23 : decode cX5_through 23 = .ok (.iload_n 2, 1) := by decide +kernel
theorem dX5_through_24 : decode cX5_through 24 = .ok (.invokevirtual 123, 3) := by decide +kernel
theorem dX5_through_27 : decode cX5_through 27 = .ok (.ireturn, 1) := by decide +kernel
theorem dX5_weight_0 : decode cX5_weight 0 = .ok (.aload_n 0, 1) := by decide +kernel
theorem dX5_weight_1 : decode cX5_weight 1 = .ok (.iload_n 1, 1) := by decide +kernel
theorem dX5_weight_2 : decode cX5_weight 2 = .ok (.invokevirtual 74, 3) := by decide +kernel
theorem dX5_weight_5 : decode cX5_weight 5 = .ok (.astore_n 3, 1) := by decide +kernel
theorem dX5_weight_6 : decode cX5_weight 6 = .ok (.aload_n 3, 1) := by decide +kernel
theorem dX5_weight_7 : decode cX5_weight 7 = .ok (.ifnull 10, 3) := by decide +kernel
theorem dX5_weight_10 : decode cX5_weight 10 = .ok (.iload_n 2, 1) := by decide +kernel
theorem dX5_weight_11 : decode cX5_weight 11 = .ok (.invokestatic 126, 3) := by decide +kernel
theorem dX5_weight_14 : decode cX5_weight 14 = .ok (.ifCond .ne 7, 3) := by decide +kernel
theorem dX5_weight_17 : decode cX5_weight 17 = .ok (.iconst (-1), 1) := by decide +kernel
theorem dX5_weight_18 : decode cX5_weight 18 = .ok (.goto 8, 3) := by decide +kernel
theorem dX5_weight_21 : decode cX5_weight 21 = .ok (.aload_n 3, 1) := by decide +kernel
theorem dX5_weight_22 : decode cX5_weight 22 = .ok (.iload_n 2, 1) := by decide +kernel
theorem dX5_weight_23 : decode cX5_weight 23 = .ok (.invokevirtual 129, 3) := by decide +kernel
theorem dX5_weight_26 : decode cX5_weight 26 = .ok (.ireturn, 1) := by decide +kernel
theorem dX5_guilty_0 : decode cX5_guilty 0 = .ok (.aload_n 0, 1) := by decide +kernel
theorem dX5_guilty_1 : decode cX5_guilty 1 = .ok (.iload_n 1, 1) := by decide +kernel
theorem dX5_guilty_2 : decode cX5_guilty 2 = .ok (.invokevirtual 74, 3) := by decide +kernel
theorem dX5_guilty_5 : decode cX5_guilty 5 = .ok (.astore_n 2, 1) := by decide +kernel
theorem dX5_guilty_6 : decode cX5_guilty 6 = .ok (.aload_n 2, 1) := by decide +kernel
theorem dX5_guilty_7 : decode cX5_guilty 7 = .ok (.ifnonnull 7, 3) := by decide +kernel
theorem dX5_guilty_10 : decode cX5_guilty 10 = .ok (.iconst (-1), 1) := by decide +kernel
theorem dX5_guilty_11 : decode cX5_guilty 11 = .ok (.goto 7, 3) := by decide +kernel
theorem dX5_guilty_14 : decode cX5_guilty 14 = .ok (.aload_n 2, 1) := by decide +kernel
theorem dX5_guilty_15 : decode cX5_guilty 15 = .ok (.invokevirtual 132, 3) := by decide +kernel
theorem dX5_guilty_18 : decode cX5_guilty 18 = .ok (.ireturn, 1) := by decide +kernel
theorem dX5_stuck_0 : decode cX5_stuck 0 = .ok (.iconst 0, 1) := by decide +kernel
theorem dX5_stuck_1 : decode cX5_stuck 1 = .ok (.istore_n 2, 1) := by decide +kernel
theorem dX5_stuck_2 : decode cX5_stuck 2 = .ok (.iconst 0, 1) := by decide +kernel
theorem dX5_stuck_3 : decode cX5_stuck 3 = .ok (.istore_n 3, 1) := by decide +kernel
theorem dX5_stuck_4 : decode cX5_stuck 4 = .ok (.iload_n 3, 1) := by decide +kernel
theorem dX5_stuck_5 : decode cX5_stuck 5 = .ok (.bipush 24, 2) := by decide +kernel
theorem dX5_stuck_7 : decode cX5_stuck 7 = .ok (.if_icmp .ge 27, 3) := by decide +kernel
theorem dX5_stuck_10 : decode cX5_stuck 10 = .ok (.aload_n 0, 1) := by decide +kernel
theorem dX5_stuck_11 : decode cX5_stuck 11 = .ok (.iload_n 3, 1) := by decide +kernel
theorem dX5_stuck_12 : decode cX5_stuck 12 = .ok (.invokevirtual 135, 3) := by decide +kernel
theorem dX5_stuck_15 : decode cX5_stuck 15 = .ok (.ifCond .eq 13, 3) := by decide +kernel
theorem dX5_stuck_18 : decode cX5_stuck 18 = .ok (.iload_n 2, 1) := by decide +kernel
theorem dX5_stuck_19 : decode cX5_stuck 19 = .ok (.iload_n 1, 1) := by decide +kernel
theorem dX5_stuck_20 : decode cX5_stuck 20 = .ok (.if_icmp .ne 5, 3) := by decide +kernel
theorem dX5_stuck_23 : decode cX5_stuck 23 = .ok (.iload_n 3, 1) := by decide +kernel
theorem dX5_stuck_24 : decode cX5_stuck 24 = .ok (.ireturn, 1) := by decide +kernel
theorem dX5_stuck_25 : decode cX5_stuck 25 = .ok (.iinc 2 1, 3) := by decide +kernel
theorem dX5_stuck_28 : decode cX5_stuck 28 = .ok (.iinc 3 1, 3) := by decide +kernel
theorem dX5_stuck_31 : decode cX5_stuck 31 = .ok (.goto (-27), 3) := by decide +kernel
theorem dX5_stuck_34 : decode cX5_stuck 34 = .ok (.iconst (-1), 1) := by decide +kernel
theorem dX5_stuck_35 : decode cX5_stuck 35 = .ok (.ireturn, 1) := by decide +kernel
theorem dX5_broken_0 : decode cX5_broken 0 = .ok (.aload_n 0, 1) := by decide +kernel
theorem dX5_broken_1 : decode cX5_broken 1 = .ok (.getfield 25, 3) := by decide +kernel
theorem dX5_broken_4 : decode cX5_broken 4 = .ok (.iload_n 1, 1) := by decide +kernel
theorem dX5_broken_5 : decode cX5_broken 5 = .ok (.invokevirtual 138, 3) := by decide +kernel
theorem dX5_broken_8 : decode cX5_broken 8 = .ok (.ireturn, 1) := by decide +kernel
theorem dX5_meter_0 : decode cX5_meter 0 = .ok (.iload_n 1, 1) := by decide +kernel
theorem dX5_meter_1 : decode cX5_meter 1 = .ok (.iconst 2, 1) := by decide +kernel
theorem dX5_meter_2 : decode cX5_meter 2 = .ok (.if_icmp .lt 20, 3) := by decide +kernel
theorem dX5_meter_5 : decode cX5_meter 5 = .ok (.iload_n 1, 1) := by decide +kernel
theorem dX5_meter_6 : decode cX5_meter 6 = .ok (.sipush 10000, 3) := by decide +kernel
theorem dX5_meter_9 : decode cX5_meter 9 = .ok (.if_icmp .gt 13, 3) := by decide +kernel
theorem dX5_meter_12 : decode cX5_meter 12 = .ok (.iload_n 2, 1) := by decide +kernel
theorem dX5_meter_13 : decode cX5_meter 13 = .ok (.ifCond .lt 9, 3) := by decide +kernel
theorem dX5_meter_16 : decode cX5_meter 16 = .ok (.iload_n 2, 1) := by decide +kernel
theorem dX5_meter_17 : decode cX5_meter 17 = .ok (.bipush 100, 2) := by decide +kernel
theorem dX5_meter_19 : decode cX5_meter 19 = .ok (.if_icmp .le 5, 3) := by decide +kernel
theorem dX5_meter_22 : decode cX5_meter 22 = .ok (.iconst 0, 1) := by decide +kernel
theorem dX5_meter_23 : decode cX5_meter 23 = .ok (.ireturn, 1) := by decide +kernel
theorem dX5_meter_24 : decode cX5_meter 24 = .ok (.aload_n 0, 1) := by decide +kernel
theorem dX5_meter_25 : decode cX5_meter 25 = .ok (.iload_n 1, 1) := by decide +kernel
theorem dX5_meter_26 : decode cX5_meter 26 = .ok (.putfield 33, 3) := by decide +kernel
theorem dX5_meter_29 : decode cX5_meter 29 = .ok (.aload_n 0, 1) := by decide +kernel
theorem dX5_meter_30 : decode cX5_meter 30 = .ok (.iload_n 2, 1) := by decide +kernel
theorem dX5_meter_31 : decode cX5_meter 31 = .ok (.putfield 36, 3) := by decide +kernel
theorem dX5_meter_34 : decode cX5_meter 34 = .ok (.iconst 1, 1) := by decide +kernel
theorem dX5_meter_35 : decode cX5_meter 35 = .ok (.ireturn, 1) := by decide +kernel
theorem dX5_work_0 : decode cX5_work 0 = .ok (.aload_n 0, 1) := by decide +kernel
theorem dX5_work_1 : decode cX5_work 1 = .ok (.iload_n 2, 1) := by decide +kernel
theorem dX5_work_2 : decode cX5_work 2 = .ok (.invokevirtual 74, 3) := by decide +kernel
theorem dX5_work_5 : decode cX5_work 5 = .ok (.astore 5, 2) := by decide +kernel
theorem dX5_work_7 : decode cX5_work 7 = .ok (.aload_n 0, 1) := by decide +kernel
theorem dX5_work_8 : decode cX5_work 8 = .ok (.iload_n 3, 1) := by decide +kernel
theorem dX5_work_9 : decode cX5_work 9 = .ok (.invokevirtual 74, 3) := by decide +kernel
theorem dX5_work_12 : decode cX5_work 12 = .ok (.astore 6, 2) := by decide +kernel
theorem dX5_work_14 : decode cX5_work 14 = .ok (.aload 5, 2) := by decide +kernel
theorem dX5_work_16 : decode cX5_work 16 = .ok (.ifnull 13, 3) := by decide +kernel
theorem dX5_work_19 : decode cX5_work 19 = .ok (.aload 6, 2) := by decide +kernel
theorem dX5_work_21 : decode cX5_work 21 = .ok (.ifnull 8, 3) := by decide +kernel
theorem dX5_work_24 : decode cX5_work 24 = .ok (.iload_n 2, 1) := by decide +kernel
theorem dX5_work_25 : decode cX5_work 25 = .ok (.iload_n 3, 1) := by decide +kernel
theorem dX5_work_26 : decode cX5_work 26 = .ok (.if_icmp .ne 5, 3) := by decide +kernel
theorem dX5_work_29 : decode cX5_work 29 = .ok (.iconst (-1), 1) := by decide +kernel
theorem dX5_work_30 : decode cX5_work 30 = .ok (.ireturn, 1) := by decide +kernel
theorem dX5_work_31 : decode cX5_work 31 = .ok (.aload 5, 2) := by decide +kernel
theorem dX5_work_33 : decode cX5_work 33 = .ok (.getfield 141, 3) := by decide +kernel
theorem dX5_work_36 : decode cX5_work 36 = .ok (.aload 6, 2) := by decide +kernel
theorem dX5_work_38 : decode cX5_work 38 = .ok (.getfield 141, 3) := by decide +kernel
theorem dX5_work_41 : decode cX5_work 41 = .ok (.if_icmp .ge 17, 3) := by decide +kernel
theorem dX5_work_44 : decode cX5_work 44 = .ok (.aload_n 0, 1) := by decide +kernel
theorem dX5_work_45 : decode cX5_work 45 = .ok (.aload 5, 2) := by decide +kernel
theorem dX5_work_47 : decode cX5_work 47 = .ok (.aload 6, 2) := by decide +kernel
theorem dX5_work_49 : decode cX5_work 49 = .ok (.iload_n 1, 1) := by decide +kernel
theorem dX5_work_50 : decode cX5_work 50 = .ok (.iload 4, 2) := by decide +kernel
theorem dX5_work_52 : decode cX5_work 52 = .ok (.invokevirtual 144, 3) := by decide +kernel
theorem dX5_work_55 : decode cX5_work 55 = .ok (.goto 14, 3) := by decide +kernel
theorem dX5_work_58 : decode cX5_work 58 = .ok (.aload_n 0, 1) := by decide +kernel
theorem dX5_work_59 : decode cX5_work 59 = .ok (.aload 6, 2) := by decide +kernel
theorem dX5_work_61 : decode cX5_work 61 = .ok (.aload 5, 2) := by decide +kernel
theorem dX5_work_63 : decode cX5_work 63 = .ok (.iload_n 1, 1) := by decide +kernel
theorem dX5_work_64 : decode cX5_work 64 = .ok (.iload 4, 2) := by decide +kernel
theorem dX5_work_66 : decode cX5_work 66 = .ok (.invokevirtual 144, 3) := by decide +kernel
theorem dX5_work_69 : decode cX5_work 69 = .ok (.ireturn, 1) := by decide +kernel
theorem dX5_distance_0 : decode cX5_distance 0 = .ok (.aload_n 0, 1) := by decide +kernel
theorem dX5_distance_1 : decode cX5_distance 1 = .ok (.iload_n 1, 1) := by decide +kernel
theorem dX5_distance_2 : decode cX5_distance 2 = .ok (.invokevirtual 74, 3) := by decide +kernel
theorem dX5_distance_5 : decode cX5_distance 5 = .ok (.astore 4, 2) := by decide +kernel
theorem dX5_distance_7 : decode cX5_distance 7 = .ok (.aload 4, 2) := by decide +kernel
theorem dX5_distance_9 : decode cX5_distance 9 = .ok (.ifnull 21, 3) := by decide +kernel
theorem dX5_distance_12 : decode cX5_distance 12 = .ok (.aload 4, 2) := by decide +kernel
theorem dX5_distance_14 : decode cX5_distance 14 = .ok (.iload_n 2, 1) := by decide +kernel
theorem dX5_distance_15 : decode cX5_distance 15 = .ok (.invokevirtual 119, 3) := by decide +kernel
theorem dX5_distance_18 : decode cX5_distance 18 = .ok (.ifnull 12, 3) := by decide +kernel
theorem dX5_distance_21 : decode cX5_distance 21 = .ok (.aload 4, 2) := by decide +kernel
theorem dX5_distance_23 : decode cX5_distance 23 = .ok (.iload_n 3, 1) := by decide +kernel
theorem dX5_distance_24 : decode cX5_distance 24 = .ok (.invokevirtual 119, 3) := by decide +kernel
theorem dX5_distance_27 : decode cX5_distance 27 = .ok (.ifnonnull 5, 3) := by decide +kernel
theorem dX5_distance_30 : decode cX5_distance 30 = .ok (.iconst (-1), 1) := by decide +kernel
theorem dX5_distance_31 : decode cX5_distance 31 = .ok (.ireturn, 1) := by decide +kernel
theorem dX5_distance_32 : decode cX5_distance 32 = .ok (.aload 4, 2) := by decide +kernel
theorem dX5_distance_34 : decode cX5_distance 34 = .ok (.iload_n 2, 1) := by decide +kernel
theorem dX5_distance_35 : decode cX5_distance 35 = .ok (.iload_n 3, 1) := by decide +kernel
theorem dX5_distance_36 : decode cX5_distance 36 = .ok (.invokevirtual 148, 3) := by decide +kernel
theorem dX5_distance_39 : decode cX5_distance 39 = .ok (.ireturn, 1) := by decide +kernel
theorem dX5_heaps_0 : decode cX5_heaps 0 = .ok (.aload_n 0, 1) := by decide +kernel
theorem dX5_heaps_1 : decode cX5_heaps 1 = .ok (.iload_n 1, 1) := by decide +kernel
theorem dX5_heaps_2 : decode cX5_heaps 2 = .ok (.invokevirtual 74, 3) := by decide +kernel
theorem dX5_heaps_5 : decode cX5_heaps 5 = .ok (.astore_n 3, 1) := by decide +kernel
theorem dX5_heaps_6 : decode cX5_heaps 6 = .ok (.aload_n 3, 1) := by decide +kernel
theorem dX5_heaps_7 : decode cX5_heaps 7 = .ok (.ifnull 10, 3) := by decide +kernel
theorem dX5_heaps_10 : decode cX5_heaps 10 = .ok (.iload_n 2, 1) := by decide +kernel
theorem dX5_heaps_11 : decode cX5_heaps 11 = .ok (.invokestatic 151, 3) := by decide +kernel
theorem dX5_heaps_14 : decode cX5_heaps 14 = .ok (.ifCond .ne 7, 3) := by decide +kernel
theorem dX5_heaps_17 : decode cX5_heaps 17 = .ok (.iconst (-1), 1) := by decide +kernel
theorem dX5_heaps_18 : decode cX5_heaps 18 = .ok (.goto 8, 3) := by decide +kernel
theorem dX5_heaps_21 : decode cX5_heaps 21 = .ok (.aload_n 3, 1) := by decide +kernel
theorem dX5_heaps_22 : decode cX5_heaps 22 = .ok (.iload_n 2, 1) := by decide +kernel
theorem dX5_heaps_23 : decode cX5_heaps 23 = .ok (.invokevirtual 154, 3) := by decide +kernel
theorem dX5_heaps_26 : decode cX5_heaps 26 = .ok (.ireturn, 1) := by decide +kernel
theorem dX5_heap_0 : decode cX5_heap 0 = .ok (.aload_n 0, 1) := by decide +kernel
theorem dX5_heap_1 : decode cX5_heap 1 = .ok (.iload_n 1, 1) := by decide +kernel
theorem dX5_heap_2 : decode cX5_heap 2 = .ok (.invokevirtual 74, 3) := by decide +kernel
theorem dX5_heap_5 : decode cX5_heap 5 = .ok (.astore 4, 2) := by decide +kernel
theorem dX5_heap_7 : decode cX5_heap 7 = .ok (.aload 4, 2) := by decide +kernel
theorem dX5_heap_9 : decode cX5_heap 9 = .ok (.ifnull 19, 3) := by decide +kernel
theorem dX5_heap_12 : decode cX5_heap 12 = .ok (.aload 4, 2) := by decide +kernel
theorem dX5_heap_14 : decode cX5_heap 14 = .ok (.iload_n 3, 1) := by decide +kernel
theorem dX5_heap_15 : decode cX5_heap 15 = .ok (.invokevirtual 119, 3) := by decide +kernel
theorem dX5_heap_18 : decode cX5_heap 18 = .ok (.ifnull 10, 3) := by decide +kernel
theorem dX5_heap_21 : decode cX5_heap 21 = .ok (.iload_n 2, 1) := by decide +kernel
theorem dX5_heap_22 : decode cX5_heap 22 = .ok (.invokestatic 151, 3) := by decide +kernel
theorem dX5_heap_25 : decode cX5_heap 25 = .ok (.ifCond .ne 5, 3) := by decide +kernel
theorem dX5_heap_28 : decode cX5_heap 28 = .ok (.iconst (-1), 1) := by decide +kernel
theorem dX5_heap_29 : decode cX5_heap 29 = .ok (.ireturn, 1) := by decide +kernel
theorem dX5_heap_30 : decode cX5_heap 30 = .ok (.aload 4, 2) := by decide +kernel
theorem dX5_heap_32 : decode cX5_heap 32 = .ok (.iload_n 3, 1) := by decide +kernel
theorem dX5_heap_33 : decode cX5_heap 33 = .ok (.iload_n 2, 1) := by decide +kernel
theorem dX5_heap_34 : decode cX5_heap 34 = .ok (.invokevirtual 157, 3) := by decide +kernel
theorem dX5_heap_37 : decode cX5_heap 37 = .ok (.invokestatic 160, 3) := by decide +kernel
theorem dX5_heap_40 : decode cX5_heap 40 = .ok (.ireturn, 1) := by decide +kernel
theorem dX5_order_0 : decode cX5_order 0 = .ok (.iconst 0, 1) := by decide +kernel
theorem dX5_order_1 : decode cX5_order 1 = .ok (.istore_n 2, 1) := by decide +kernel
theorem dX5_order_2 : decode cX5_order 2 = .ok (.iload_n 2, 1) := by decide +kernel
theorem dX5_order_3 : decode cX5_order 3 = .ok (.aload_n 0, 1) := by decide +kernel
theorem dX5_order_4 : decode cX5_order 4 = .ok (.getfield 29, 3) := by decide +kernel
theorem dX5_order_7 : decode cX5_order 7 = .ok (.if_icmp .ge 33, 3) := by decide +kernel
theorem dX5_order_10 : decode cX5_order 10 = .ok (.aload_n 0, 1) := by decide +kernel
theorem dX5_order_11 : decode cX5_order 11 = .ok (.iload_n 2, 1) := by decide +kernel
theorem dX5_order_12 : decode cX5_order 12 = .ok (.invokevirtual 74, 3) := by decide +kernel
theorem dX5_order_15 : decode cX5_order 15 = .ok (.astore_n 3, 1) := by decide +kernel
theorem dX5_order_16 : decode cX5_order 16 = .ok (.aload_n 3, 1) := by decide +kernel
theorem dX5_order_17 : decode cX5_order 17 = .ok (.ifnull 17, 3) := by decide +kernel
theorem dX5_order_20 : decode cX5_order 20 = .ok (.aload_n 0, 1) := by decide +kernel
theorem dX5_order_21 : decode cX5_order 21 = .ok (.aload_n 3, 1) := by decide +kernel
theorem dX5_order_22 : decode cX5_order 22 = .ok (.getfield 141, 3) := by decide +kernel
theorem dX5_order_25 : decode cX5_order 25 = .ok (.invokevirtual 163, 3) := by decide +kernel
theorem dX5_order_28 : decode cX5_order 28 = .ok (.iload_n 1, 1) := by decide +kernel
theorem dX5_order_29 : decode cX5_order 29 = .ok (.if_icmp .ne 5, 3) := by decide +kernel
theorem dX5_order_32 : decode cX5_order 32 = .ok (.iload_n 2, 1) := by decide +kernel
theorem dX5_order_33 : decode cX5_order 33 = .ok (.ireturn, 1) := by decide +kernel
theorem dX5_order_34 : decode cX5_order 34 = .ok (.iinc 2 1, 3) := by decide +kernel
theorem dX5_order_37 : decode cX5_order 37 = .ok (.goto (-35), 3) := by decide +kernel
theorem dX5_order_40 : decode cX5_order 40 = .ok (.iconst (-1), 1) := by decide +kernel
theorem dX5_order_41 : decode cX5_order 41 = .ok (.ireturn, 1) := by decide +kernel
theorem dX5_count_0 : decode cX5_count 0 = .ok (.iload_n 1, 1) := by decide +kernel
theorem dX5_count_1 : decode cX5_count 1 = .ok (.iconst (-1), 1) := by decide +kernel
theorem dX5_count_2 : decode cX5_count 2 = .ok (.if_icmp .ne 9, 3) := by decide +kernel
theorem dX5_count_5 : decode cX5_count 5 = .ok (.aload_n 0, 1) := by decide +kernel
theorem dX5_count_6 : decode cX5_count 6 = .ok (.iload_n 2, 1) := by decide +kernel
theorem dX5_count_7 : decode cX5_count 7 = .ok (.invokevirtual 166, 3) := by decide +kernel
theorem dX5_count_10 : decode cX5_count 10 = .ok (.ireturn, 1) := by decide +kernel
theorem dX5_count_11 : decode cX5_count 11 = .ok (.aload_n 0, 1) := by decide +kernel
theorem dX5_count_12 : decode cX5_count 12 = .ok (.iload_n 1, 1) := by decide +kernel
theorem dX5_count_13 : decode cX5_count 13 = .ok (.invokevirtual 74, 3) := by decide +kernel
theorem dX5_count_16 : decode cX5_count 16 = .ok (.astore_n 3, 1) := by decide +kernel
theorem dX5_count_17 : decode cX5_count 17 = .ok (.aload_n 3, 1) := by decide +kernel
theorem dX5_count_18 : decode cX5_count 18 = .ok (.ifnonnull 5, 3) := by decide +kernel
theorem dX5_count_21 : decode cX5_count 21 = .ok (.iconst (-1), 1) := by decide +kernel
theorem dX5_count_22 : decode cX5_count 22 = .ok (.ireturn, 1) := by decide +kernel
theorem dX5_count_23 : decode cX5_count 23 = .ok (.iload_n 2, 1) := by decide +kernel
theorem dX5_count_24 : decode cX5_count 24 = .ok (.tableswitch 52 0 3 #[32, 37, 42, 47], 32) := by decide +kernel
theorem dX5_count_56 : decode cX5_count 56 = .ok (.aload_n 3, 1) := by decide +kernel
theorem dX5_count_57 : decode cX5_count 57 = .ok (.getfield 141, 3) := by decide +kernel
theorem dX5_count_60 : decode cX5_count 60 = .ok (.ireturn, 1) := by decide +kernel
theorem dX5_count_61 : decode cX5_count 61 = .ok (.aload_n 3, 1) := by decide +kernel
theorem dX5_count_62 : decode cX5_count 62 = .ok (.getfield 169, 3) := by decide +kernel
theorem dX5_count_65 : decode cX5_count 65 = .ok (.ireturn, 1) := by decide +kernel
theorem dX5_count_66 : decode cX5_count 66 = .ok (.aload_n 3, 1) := by decide +kernel
theorem dX5_count_67 : decode cX5_count 67 = .ok (.getfield 172, 3) := by decide +kernel
theorem dX5_count_70 : decode cX5_count 70 = .ok (.ireturn, 1) := by decide +kernel
theorem dX5_count_71 : decode cX5_count 71 = .ok (.aload_n 3, 1) := by decide +kernel
theorem dX5_count_72 : decode cX5_count 72 = .ok (.getfield 175, 3) := by decide +kernel
theorem dX5_count_75 : decode cX5_count 75 = .ok (.ireturn, 1) := by decide +kernel
theorem dX5_count_76 : decode cX5_count 76 = .ok (.iconst (-1), 1) := by decide +kernel
theorem dX5_count_77 : decode cX5_count 77 = .ok (.ireturn, 1) := by decide +kernel
theorem dX5_workBetween_0 : decode cX5_workBetween 0 = .ok (.aload_n 1, 1) := by decide +kernel
theorem dX5_workBetween_1 : decode cX5_workBetween 1 = .ok (.iload_n 3, 1) := by decide +kernel
theorem dX5_workBetween_2 : decode cX5_workBetween 2 = .ok (.invokevirtual 119, 3) := by decide +kernel
theorem dX5_workBetween_5 : decode cX5_workBetween 5 = .ok (.astore 5, 2) := by decide +kernel
theorem dX5_workBetween_7 : decode cX5_workBetween 7 = .ok (.aload_n 2, 1) := by decide +kernel
theorem dX5_workBetween_8 : decode cX5_workBetween 8 = .ok (.iload_n 3, 1) := by decide +kernel
theorem dX5_workBetween_9 : decode cX5_workBetween 9 = .ok (.invokevirtual 119, 3) := by decide +kernel
theorem dX5_workBetween_12 : decode cX5_workBetween 12 = .ok (.astore 6, 2) := by decide +kernel
theorem dX5_workBetween_14 : decode cX5_workBetween 14 = .ok (.aload 5, 2) := by decide +kernel
theorem dX5_workBetween_16 : decode cX5_workBetween 16 = .ok (.ifnull 8, 3) := by decide +kernel
theorem dX5_workBetween_19 : decode cX5_workBetween 19 = .ok (.aload 6, 2) := by decide +kernel
theorem dX5_workBetween_21 : decode cX5_workBetween 21 = .ok (.ifnonnull 5, 3) := by decide +kernel
theorem dX5_workBetween_24 : decode cX5_workBetween 24 = .ok (.iconst (-1), 1) := by decide +kernel
theorem dX5_workBetween_25 : decode cX5_workBetween 25 = .ok (.ireturn, 1) := by decide +kernel
theorem dX5_workBetween_26 : decode cX5_workBetween 26 = .ok (.aload 6, 2) := by decide +kernel
theorem dX5_workBetween_28 : decode cX5_workBetween 28 = .ok (.getfield 90, 3) := by decide +kernel
theorem dX5_workBetween_31 : decode cX5_workBetween 31 = .ok (.aload 5, 2) := by decide +kernel
theorem dX5_workBetween_33 : decode cX5_workBetween 33 = .ok (.getfield 90, 3) := by decide +kernel
theorem dX5_workBetween_36 : decode cX5_workBetween 36 = .ok (.isub, 1) := by decide +kernel
theorem dX5_workBetween_37 : decode cX5_workBetween 37 = .ok (.aload_n 0, 1) := by decide +kernel
theorem dX5_workBetween_38 : decode cX5_workBetween 38 = .ok (.getfield 33, 3) := by decide +kernel
theorem dX5_workBetween_41 : decode cX5_workBetween 41 = .ok (.invokestatic 178, 3) := by decide +kernel
theorem dX5_workBetween_44 : decode cX5_workBetween 44 = .ok (.istore 7, 2) := by decide +kernel
theorem dX5_workBetween_46 : decode cX5_workBetween 46 = .ok (.aload_n 0, 1) := by decide +kernel
theorem dX5_workBetween_47 : decode cX5_workBetween 47 = .ok (.getfield 36, 3) := by decide +kernel
theorem dX5_workBetween_50 : decode cX5_workBetween 50 = .ok (.aload_n 2, 1) := by decide +kernel
theorem dX5_workBetween_51 : decode cX5_workBetween 51 = .ok (.getfield 141, 3) := by decide +kernel
theorem dX5_workBetween_54 : decode cX5_workBetween 54 = .ok (.aload_n 1, 1) := by decide +kernel
theorem dX5_workBetween_55 : decode cX5_workBetween 55 = .ok (.getfield 141, 3) := by decide +kernel
theorem dX5_workBetween_58 : decode cX5_workBetween 58 = .ok (.isub, 1) := by decide +kernel
theorem dX5_workBetween_59 : decode cX5_workBetween 59 = .ok (.imul, 1) := by decide +kernel
theorem dX5_workBetween_60 : decode cX5_workBetween 60 = .ok (.istore 8, 2) := by decide +kernel
theorem dX5_workBetween_62 : decode cX5_workBetween 62 = .ok (.iload 7, 2) := by decide +kernel
theorem dX5_workBetween_64 : decode cX5_workBetween 64 = .ok (.iload 8, 2) := by decide +kernel
theorem dX5_workBetween_66 : decode cX5_workBetween 66 = .ok (.if_icmp .le 7, 3) := by decide +kernel
theorem dX5_workBetween_69 : decode cX5_workBetween 69 = .ok (.iconst 0, 1) := by decide +kernel
theorem dX5_workBetween_70 : decode cX5_workBetween 70 = .ok (.goto 15, 3) := by decide +kernel
theorem dX5_workBetween_73 : decode cX5_workBetween 73 = .ok (.iload 8, 2) := by decide +kernel
theorem dX5_workBetween_75 : decode cX5_workBetween 75 = .ok (.iload 7, 2) := by decide +kernel
theorem dX5_workBetween_77 : decode cX5_workBetween 77 = .ok (.isub, 1) := by decide +kernel
theorem dX5_workBetween_78 : decode cX5_workBetween 78 = .ok (.aload_n 0, 1) := by decide +kernel
theorem dX5_workBetween_79 : decode cX5_workBetween 79 = .ok (.getfield 33, 3) := by decide +kernel
theorem dX5_workBetween_82 : decode cX5_workBetween 82 = .ok (.idiv, 1) := by decide +kernel
theorem dX5_workBetween_83 : decode cX5_workBetween 83 = .ok (.iconst 1, 1) := by decide +kernel
theorem dX5_workBetween_84 : decode cX5_workBetween 84 = .ok (.iadd, 1) := by decide +kernel
theorem dX5_workBetween_85 : decode cX5_workBetween 85 = .ok (.istore 9, 2) := by decide +kernel
theorem dX5_workBetween_87 : decode cX5_workBetween 87 = .ok (.iload 4, 2) := by decide +kernel
theorem dX5_workBetween_89 : decode cX5_workBetween 89 = .ok (.iconst 2, 1) := by decide +kernel
theorem dX5_workBetween_90 : decode cX5_workBetween 90 = .ok (.if_icmp .ne 6, 3) := by decide +kernel
theorem dX5_workBetween_93 : decode cX5_workBetween 93 = .ok (.iload 9, 2) := by decide +kernel
theorem dX5_workBetween_95 : decode cX5_workBetween 95 = .ok (.ireturn, 1) := by decide +kernel
theorem dX5_workBetween_96 : decode cX5_workBetween 96 = .ok (.iload 9, 2) := by decide +kernel
theorem dX5_workBetween_98 : decode cX5_workBetween 98 = .ok (.ifCond .eq 14, 3) := by decide +kernel
theorem dX5_workBetween_101 : decode cX5_workBetween 101 = .ok (.iload 4, 2) := by decide +kernel
theorem dX5_workBetween_103 : decode cX5_workBetween 103 = .ok (.ifCond .lt 9, 3) := by decide +kernel
theorem dX5_workBetween_106 : decode cX5_workBetween 106 = .ok (.iload 4, 2) := by decide +kernel
theorem dX5_workBetween_108 : decode cX5_workBetween 108 = .ok (.iconst 2, 1) := by decide +kernel
theorem dX5_workBetween_109 : decode cX5_workBetween 109 = .ok (.if_icmp .le 5, 3) := by decide +kernel
theorem dX5_workBetween_112 : decode cX5_workBetween 112 = .ok (.iconst (-1), 1) := by decide +kernel
theorem dX5_workBetween_113 : decode cX5_workBetween 113 = .ok (.ireturn, 1) := by decide +kernel
theorem dX5_workBetween_114 : decode cX5_workBetween 114 = .ok (.iload 4, 2) := by decide +kernel
theorem dX5_workBetween_116 : decode cX5_workBetween 116 = .ok (.ifCond .ne 8, 3) := by decide +kernel
theorem dX5_workBetween_119 : decode cX5_workBetween 119 = .ok (.iload 7, 2) := by decide +kernel
theorem dX5_workBetween_121 : decode cX5_workBetween 121 = .ok (.goto 15, 3) := by decide +kernel
theorem dX5_workBetween_124 : decode cX5_workBetween 124 = .ok (.iload 7, 2) := by decide +kernel
theorem dX5_workBetween_126 : decode cX5_workBetween 126 = .ok (.iload 9, 2) := by decide +kernel
theorem dX5_workBetween_128 : decode cX5_workBetween 128 = .ok (.iconst 1, 1) := by decide +kernel
theorem dX5_workBetween_129 : decode cX5_workBetween 129 = .ok (.isub, 1) := by decide +kernel
theorem dX5_workBetween_130 : decode cX5_workBetween 130 = .ok (.aload_n 0, 1) := by decide +kernel
theorem dX5_workBetween_131 : decode cX5_workBetween 131 = .ok (.getfield 33, 3) := by decide +kernel
theorem dX5_workBetween_134 : decode cX5_workBetween 134 = .ok (.imul, 1) := by decide +kernel
theorem dX5_workBetween_135 : decode cX5_workBetween 135 = .ok (.iadd, 1) := by decide +kernel
theorem dX5_workBetween_136 : decode cX5_workBetween 136 = .ok (.ireturn, 1) := by decide +kernel
theorem dX5_countOfReader_0 : decode cX5_countOfReader 0 = .ok (.iload_n 1, 1) := by decide +kernel
theorem dX5_countOfReader_1 : decode cX5_countOfReader 1 = .ok (.tableswitch 54 0 3 #[31, 36, 44, 49], 31) := by decide +kernel
theorem dX5_countOfReader_32 : decode cX5_countOfReader 32 = .ok (.aload_n 0, 1) := by decide +kernel
theorem dX5_countOfReader_33 : decode cX5_countOfReader 33 = .ok (.getfield 29, 3) := by decide +kernel
theorem dX5_countOfReader_36 : decode cX5_countOfReader 36 = .ok (.ireturn, 1) := by decide +kernel
theorem dX5_countOfReader_37 : decode cX5_countOfReader 37 = .ok (.aload_n 0, 1) := by decide +kernel
theorem dX5_countOfReader_38 : decode cX5_countOfReader 38 = .ok (.getfield 10, 3) := by decide +kernel
theorem dX5_countOfReader_41 : decode cX5_countOfReader 41 = .ok (.getfield 39, 3) := by decide +kernel
theorem dX5_countOfReader_44 : decode cX5_countOfReader 44 = .ok (.ireturn, 1) := by decide +kernel
theorem dX5_countOfReader_45 : decode cX5_countOfReader 45 = .ok (.aload_n 0, 1) := by decide +kernel
theorem dX5_countOfReader_46 : decode cX5_countOfReader 46 = .ok (.getfield 33, 3) := by decide +kernel
theorem dX5_countOfReader_49 : decode cX5_countOfReader 49 = .ok (.ireturn, 1) := by decide +kernel
theorem dX5_countOfReader_50 : decode cX5_countOfReader 50 = .ok (.aload_n 0, 1) := by decide +kernel
theorem dX5_countOfReader_51 : decode cX5_countOfReader 51 = .ok (.getfield 36, 3) := by decide +kernel
theorem dX5_countOfReader_54 : decode cX5_countOfReader 54 = .ok (.ireturn, 1) := by decide +kernel
theorem dX5_countOfReader_55 : decode cX5_countOfReader 55 = .ok (.iconst (-1), 1) := by decide +kernel
theorem dX5_countOfReader_56 : decode cX5_countOfReader 56 = .ok (.ireturn, 1) := by decide +kernel
theorem dX5_pictureAt_0 : decode cX5_pictureAt 0 = .ok (.iload_n 1, 1) := by decide +kernel
theorem dX5_pictureAt_1 : decode cX5_pictureAt 1 = .ok (.ifCond .lt 11, 3) := by decide +kernel
theorem dX5_pictureAt_4 : decode cX5_pictureAt 4 = .ok (.iload_n 1, 1) := by decide +kernel
theorem dX5_pictureAt_5 : decode cX5_pictureAt 5 = .ok (.aload_n 0, 1) := by decide +kernel
theorem dX5_pictureAt_6 : decode cX5_pictureAt 6 = .ok (.getfield 29, 3) := by decide +kernel
theorem dX5_pictureAt_9 : decode cX5_pictureAt 9 = .ok (.if_icmp .lt 7, 3) := by decide +kernel
theorem dX5_pictureAt_12 : decode cX5_pictureAt 12 = .ok (.aconst_null, 1) := by decide +kernel
theorem dX5_pictureAt_13 : decode cX5_pictureAt 13 = .ok (.goto 9, 3) := by decide +kernel
theorem dX5_pictureAt_16 : decode cX5_pictureAt 16 = .ok (.aload_n 0, 1) := by decide +kernel
theorem dX5_pictureAt_17 : decode cX5_pictureAt 17 = .ok (.getfield 18, 3) := by decide +kernel
theorem dX5_pictureAt_20 : decode cX5_pictureAt 20 = .ok (.iload_n 1, 1) := by decide +kernel
theorem dX5_pictureAt_21 : decode cX5_pictureAt 21 = .ok (.aaload, 1) := by decide +kernel
theorem dX5_pictureAt_22 : decode cX5_pictureAt 22 = .ok (.areturn, 1) := by decide +kernel
theorem dX5_rowAt_0 : decode cX5_rowAt 0 = .ok (.aload_n 0, 1) := by decide +kernel
theorem dX5_rowAt_1 : decode cX5_rowAt 1 = .ok (.iload_n 1, 1) := by decide +kernel
theorem dX5_rowAt_2 : decode cX5_rowAt 2 = .ok (.invokevirtual 74, 3) := by decide +kernel
theorem dX5_rowAt_5 : decode cX5_rowAt 5 = .ok (.astore_n 3, 1) := by decide +kernel
theorem dX5_rowAt_6 : decode cX5_rowAt 6 = .ok (.aload_n 3, 1) := by decide +kernel
theorem dX5_rowAt_7 : decode cX5_rowAt 7 = .ok (.ifnonnull 7, 3) := by decide +kernel
theorem dX5_rowAt_10 : decode cX5_rowAt 10 = .ok (.aconst_null, 1) := by decide +kernel
theorem dX5_rowAt_11 : decode cX5_rowAt 11 = .ok (.goto 8, 3) := by decide +kernel
theorem dX5_rowAt_14 : decode cX5_rowAt 14 = .ok (.aload_n 3, 1) := by decide +kernel
theorem dX5_rowAt_15 : decode cX5_rowAt 15 = .ok (.iload_n 2, 1) := by decide +kernel
theorem dX5_rowAt_16 : decode cX5_rowAt 16 = .ok (.invokevirtual 119, 3) := by decide +kernel
theorem dX5_rowAt_19 : decode cX5_rowAt 19 = .ok (.areturn, 1) := by decide +kernel
theorem dX5_isTickTaken_0 : decode cX5_isTickTaken 0 = .ok (.aload_n 0, 1) := by decide +kernel
theorem dX5_isTickTaken_1 : decode cX5_isTickTaken 1 = .ok (.getfield 18, 3) := by decide +kernel
theorem dX5_isTickTaken_4 : decode cX5_isTickTaken 4 = .ok (.astore_n 2, 1) := by decide +kernel
theorem dX5_isTickTaken_5 : decode cX5_isTickTaken 5 = .ok (.aload_n 2, 1) := by decide +kernel
theorem dX5_isTickTaken_6 : decode cX5_isTickTaken 6 = .ok (.arraylength, 1) := by decide +kernel
theorem dX5_isTickTaken_7 : decode cX5_isTickTaken 7 = .ok (.istore_n 3, 1) := by decide +kernel
theorem dX5_isTickTaken_8 : decode cX5_isTickTaken 8 = .ok (.iconst 0, 1) := by decide +kernel
theorem dX5_isTickTaken_9 : decode cX5_isTickTaken 9 = .ok (.istore 4, 2) := by decide +kernel
theorem dX5_isTickTaken_11 : decode cX5_isTickTaken 11 = .ok (.iload 4, 2) := by decide +kernel
theorem dX5_isTickTaken_13 : decode cX5_isTickTaken 13 = .ok (.iload_n 3, 1) := by decide +kernel
theorem dX5_isTickTaken_14 : decode cX5_isTickTaken 14 = .ok (.if_icmp .ge 31, 3) := by decide +kernel
theorem dX5_isTickTaken_17 : decode cX5_isTickTaken 17 = .ok (.aload_n 2, 1) := by decide +kernel
theorem dX5_isTickTaken_18 : decode cX5_isTickTaken 18 = .ok (.iload 4, 2) := by decide +kernel
theorem dX5_isTickTaken_20 : decode cX5_isTickTaken 20 = .ok (.aaload, 1) := by decide +kernel
theorem dX5_isTickTaken_21 : decode cX5_isTickTaken 21 = .ok (.astore 5, 2) := by decide +kernel
theorem dX5_isTickTaken_23 : decode cX5_isTickTaken 23 = .ok (.aload 5, 2) := by decide +kernel
theorem dX5_isTickTaken_25 : decode cX5_isTickTaken 25 = .ok (.ifnull 14, 3) := by decide +kernel
theorem dX5_isTickTaken_28 : decode cX5_isTickTaken 28 = .ok (.aload 5, 2) := by decide +kernel
theorem dX5_isTickTaken_30 : decode cX5_isTickTaken 30 = .ok (.getfield 141, 3) := by decide +kernel
theorem dX5_isTickTaken_33 : decode cX5_isTickTaken 33 = .ok (.iload_n 1, 1) := by decide +kernel
theorem dX5_isTickTaken_34 : decode cX5_isTickTaken 34 = .ok (.if_icmp .ne 5, 3) := by decide +kernel
theorem dX5_isTickTaken_37 : decode cX5_isTickTaken 37 = .ok (.iconst 1, 1) := by decide +kernel
theorem dX5_isTickTaken_38 : decode cX5_isTickTaken 38 = .ok (.ireturn, 1) := by decide +kernel
theorem dX5_isTickTaken_39 : decode cX5_isTickTaken 39 = .ok (.iinc 4 1, 3) := by decide +kernel
theorem dX5_isTickTaken_42 : decode cX5_isTickTaken 42 = .ok (.goto (-31), 3) := by decide +kernel
theorem dX5_isTickTaken_45 : decode cX5_isTickTaken 45 = .ok (.iconst 0, 1) := by decide +kernel
theorem dX5_isTickTaken_46 : decode cX5_isTickTaken 46 = .ok (.ireturn, 1) := by decide +kernel
theorem dX5_countAhead_0 : decode cX5_countAhead 0 = .ok (.iconst 0, 1) := by decide +kernel
theorem dX5_countAhead_1 : decode cX5_countAhead 1 = .ok (.istore_n 2, 1) := by decide +kernel
theorem dX5_countAhead_2 : decode cX5_countAhead 2 = .ok (.aload_n 0, 1) := by decide +kernel
theorem dX5_countAhead_3 : decode cX5_countAhead 3 = .ok (.getfield 18, 3) := by decide +kernel
theorem dX5_countAhead_6 : decode cX5_countAhead 6 = .ok (.astore_n 3, 1) := by decide +kernel
theorem dX5_countAhead_7 : decode cX5_countAhead 7 = .ok (.aload_n 3, 1) := by decide +kernel
theorem dX5_countAhead_8 : decode cX5_countAhead 8 = .ok (.arraylength, 1) := by decide +kernel
theorem dX5_countAhead_9 : decode cX5_countAhead 9 = .ok (.istore 4, 2) := by decide +kernel
theorem dX5_countAhead_11 : decode cX5_countAhead 11 = .ok (.iconst 0, 1) := by decide +kernel
theorem dX5_countAhead_12 : decode cX5_countAhead 12 = .ok (.istore 5, 2) := by decide +kernel
theorem dX5_countAhead_14 : decode cX5_countAhead 14 = .ok (.iload 5, 2) := by decide +kernel
theorem dX5_countAhead_16 : decode cX5_countAhead 16 = .ok (.iload 4, 2) := by decide +kernel
theorem dX5_countAhead_18 : decode cX5_countAhead 18 = .ok (.if_icmp .ge 32, 3) := by decide +kernel
theorem dX5_countAhead_21 : decode cX5_countAhead 21 = .ok (.aload_n 3, 1) := by decide +kernel
theorem dX5_countAhead_22 : decode cX5_countAhead 22 = .ok (.iload 5, 2) := by decide +kernel
theorem dX5_countAhead_24 : decode cX5_countAhead 24 = .ok (.aaload, 1) := by decide +kernel
theorem dX5_countAhead_25 : decode cX5_countAhead 25 = .ok (.astore 6, 2) := by decide +kernel
theorem dX5_countAhead_27 : decode cX5_countAhead 27 = .ok (.aload 6, 2) := by decide +kernel
theorem dX5_countAhead_29 : decode cX5_countAhead 29 = .ok (.ifnull 15, 3) := by decide +kernel
theorem dX5_countAhead_32 : decode cX5_countAhead 32 = .ok (.aload 6, 2) := by decide +kernel
theorem dX5_countAhead_34 : decode cX5_countAhead 34 = .ok (.getfield 141, 3) := by decide +kernel
theorem dX5_countAhead_37 : decode cX5_countAhead 37 = .ok (.iload_n 1, 1) := by decide +kernel
theorem dX5_countAhead_38 : decode cX5_countAhead 38 = .ok (.if_icmp .ge 6, 3) := by decide +kernel
theorem dX5_countAhead_41 : decode cX5_countAhead 41 = .ok (.iinc 2 1, 3) := by decide +kernel
theorem dX5_countAhead_44 : decode cX5_countAhead 44 = .ok (.iinc 5 1, 3) := by decide +kernel
theorem dX5_countAhead_47 : decode cX5_countAhead 47 = .ok (.goto (-33), 3) := by decide +kernel
theorem dX5_countAhead_50 : decode cX5_countAhead 50 = .ok (.iload_n 2, 1) := by decide +kernel
theorem dX5_countAhead_51 : decode cX5_countAhead 51 = .ok (.ireturn, 1) := by decide +kernel
theorem dX5_isStuck_0 : decode cX5_isStuck 0 = .ok (.aconst_null, 1) := by decide +kernel
theorem dX5_isStuck_1 : decode cX5_isStuck 1 = .ok (.astore_n 2, 1) := by decide +kernel
theorem dX5_isStuck_2 : decode cX5_isStuck 2 = .ok (.iconst 0, 1) := by decide +kernel
theorem dX5_isStuck_3 : decode cX5_isStuck 3 = .ok (.istore_n 3, 1) := by decide +kernel
theorem dX5_isStuck_4 : decode cX5_isStuck 4 = .ok (.iconst 0, 1) := by decide +kernel
theorem dX5_isStuck_5 : decode cX5_isStuck 5 = .ok (.istore 4, 2) := by decide +kernel
theorem dX5_isStuck_7 : decode cX5_isStuck 7 = .ok (.iload 4, 2) := by decide +kernel
theorem dX5_isStuck_9 : decode cX5_isStuck 9 = .ok (.aload_n 0, 1) := by decide +kernel
theorem dX5_isStuck_10 : decode cX5_isStuck 10 = .ok (.getfield 29, 3) := by decide +kernel
theorem dX5_isStuck_13 : decode cX5_isStuck 13 = .ok (.if_icmp .ge 47, 3) := by decide +kernel
theorem dX5_isStuck_16 : decode cX5_isStuck 16 = .ok (.aload_n 0, 1) := by decide +kernel
theorem dX5_isStuck_17 : decode cX5_isStuck 17 = .ok (.iload 4, 2) := by decide +kernel
theorem dX5_isStuck_19 : decode cX5_isStuck 19 = .ok (.iload_n 1, 1) := by decide +kernel
theorem dX5_isStuck_20 : decode cX5_isStuck 20 = .ok (.invokevirtual 81, 3) := by decide +kernel
theorem dX5_isStuck_23 : decode cX5_isStuck 23 = .ok (.astore 5, 2) := by decide +kernel
theorem dX5_isStuck_25 : decode cX5_isStuck 25 = .ok (.aload 5, 2) := by decide +kernel
theorem dX5_isStuck_27 : decode cX5_isStuck 27 = .ok (.ifnull 27, 3) := by decide +kernel
theorem dX5_isStuck_30 : decode cX5_isStuck 30 = .ok (.aload_n 2, 1) := by decide +kernel
theorem dX5_isStuck_31 : decode cX5_isStuck 31 = .ok (.ifnonnull 9, 3) := by decide +kernel
theorem dX5_isStuck_34 : decode cX5_isStuck 34 = .ok (.aload 5, 2) := by decide +kernel
theorem dX5_isStuck_36 : decode cX5_isStuck 36 = .ok (.astore_n 2, 1) := by decide +kernel
theorem dX5_isStuck_37 : decode cX5_isStuck 37 = .ok (.goto 14, 3) := by decide +kernel
theorem dX5_isStuck_40 : decode cX5_isStuck 40 = .ok (.aload_n 2, 1) := by decide +kernel
theorem dX5_isStuck_41 : decode cX5_isStuck 41 = .ok (.aload 5, 2) := by decide +kernel
theorem dX5_isStuck_43 : decode cX5_isStuck 43 = .ok (.invokevirtual 183, 3) := by decide +kernel
theorem dX5_isStuck_46 : decode cX5_isStuck 46 = .ok (.ifCond .ne 5, 3) := by decide +kernel
theorem dX5_isStuck_49 : decode cX5_isStuck 49 = .ok (.iconst 0, 1) := by decide +kernel
theorem dX5_isStuck_50 : decode cX5_isStuck 50 = .ok (.ireturn, 1) := by decide +kernel
theorem dX5_isStuck_51 : decode cX5_isStuck 51 = .ok (.iinc 3 1, 3) := by decide +kernel
theorem dX5_isStuck_54 : decode cX5_isStuck 54 = .ok (.iinc 4 1, 3) := by decide +kernel
theorem dX5_isStuck_57 : decode cX5_isStuck 57 = .ok (.goto (-50), 3) := by decide +kernel
theorem dX5_isStuck_60 : decode cX5_isStuck 60 = .ok (.iload_n 3, 1) := by decide +kernel
theorem dX5_isStuck_61 : decode cX5_isStuck 61 = .ok (.iconst 2, 1) := by decide +kernel
theorem dX5_isStuck_62 : decode cX5_isStuck 62 = .ok (.if_icmp .lt 7, 3) := by decide +kernel
theorem dX5_isStuck_65 : decode cX5_isStuck 65 = .ok (.iconst 1, 1) := by decide +kernel
theorem dX5_isStuck_66 : decode cX5_isStuck 66 = .ok (.goto 4, 3) := by decide +kernel
theorem dX5_isStuck_69 : decode cX5_isStuck 69 = .ok (.iconst 0, 1) := by decide +kernel
theorem dX5_isStuck_70 : decode cX5_isStuck 70 = .ok (.ireturn, 1) := by decide +kernel
theorem dX5_isThread_0 : decode cX5_isThread 0 = .ok (.iload_n 0, 1) := by decide +kernel
theorem dX5_isThread_1 : decode cX5_isThread 1 = .ok (.ifCond .lt 13, 3) := by decide +kernel
theorem dX5_isThread_4 : decode cX5_isThread 4 = .ok (.iload_n 0, 1) := by decide +kernel
theorem dX5_isThread_5 : decode cX5_isThread 5 = .ok (.bipush 24, 2) := by decide +kernel
theorem dX5_isThread_7 : decode cX5_isThread 7 = .ok (.if_icmp .ge 7, 3) := by decide +kernel
theorem dX5_isThread_10 : decode cX5_isThread 10 = .ok (.iconst 1, 1) := by decide +kernel
theorem dX5_isThread_11 : decode cX5_isThread 11 = .ok (.goto 4, 3) := by decide +kernel
theorem dX5_isThread_14 : decode cX5_isThread 14 = .ok (.iconst 0, 1) := by decide +kernel
theorem dX5_isThread_15 : decode cX5_isThread 15 = .ok (.ireturn, 1) := by decide +kernel
theorem dX5_isLock_0 : decode cX5_isLock 0 = .ok (.iload_n 0, 1) := by decide +kernel
theorem dX5_isLock_1 : decode cX5_isLock 1 = .ok (.ifCond .lt 13, 3) := by decide +kernel
theorem dX5_isLock_4 : decode cX5_isLock 4 = .ok (.iload_n 0, 1) := by decide +kernel
theorem dX5_isLock_5 : decode cX5_isLock 5 = .ok (.bipush 16, 2) := by decide +kernel
theorem dX5_isLock_7 : decode cX5_isLock 7 = .ok (.if_icmp .ge 7, 3) := by decide +kernel
theorem dX5_isLock_10 : decode cX5_isLock 10 = .ok (.iconst 1, 1) := by decide +kernel
theorem dX5_isLock_11 : decode cX5_isLock 11 = .ok (.goto 4, 3) := by decide +kernel
theorem dX5_isLock_14 : decode cX5_isLock 14 = .ok (.iconst 0, 1) := by decide +kernel
theorem dX5_isLock_15 : decode cX5_isLock 15 = .ok (.ireturn, 1) := by decide +kernel
theorem dX5_isHeapWidth_0 : decode cX5_isHeapWidth 0 = .ok (.iload_n 0, 1) := by decide +kernel
theorem dX5_isHeapWidth_1 : decode cX5_isHeapWidth 1 = .ok (.ifCond .lt 13, 3) := by decide +kernel
theorem dX5_isHeapWidth_4 : decode cX5_isHeapWidth 4 = .ok (.iload_n 0, 1) := by decide +kernel
theorem dX5_isHeapWidth_5 : decode cX5_isHeapWidth 5 = .ok (.bipush 24, 2) := by decide +kernel
theorem dX5_isHeapWidth_7 : decode cX5_isHeapWidth 7 = .ok (.if_icmp .gt 7, 3) := by decide +kernel
theorem dX5_isHeapWidth_10 : decode cX5_isHeapWidth 10 = .ok (.iconst 1, 1) := by decide +kernel
theorem dX5_isHeapWidth_11 : decode cX5_isHeapWidth 11 = .ok (.goto 4, 3) := by decide +kernel
theorem dX5_isHeapWidth_14 : decode cX5_isHeapWidth 14 = .ok (.iconst 0, 1) := by decide +kernel
theorem dX5_isHeapWidth_15 : decode cX5_isHeapWidth 15 = .ok (.ireturn, 1) := by decide +kernel
theorem dX5_isDigit_0 : decode cX5_isDigit 0 = .ok (.iload_n 0, 1) := by decide +kernel
theorem dX5_isDigit_1 : decode cX5_isDigit 1 = .ok (.bipush 48, 2) := by decide +kernel
theorem dX5_isDigit_3 : decode cX5_isDigit 3 = .ok (.if_icmp .lt 13, 3) := by decide +kernel
theorem dX5_isDigit_6 : decode cX5_isDigit 6 = .ok (.iload_n 0, 1) := by decide +kernel
theorem dX5_isDigit_7 : decode cX5_isDigit 7 = .ok (.bipush 57, 2) := by decide +kernel
theorem dX5_isDigit_9 : decode cX5_isDigit 9 = .ok (.if_icmp .gt 7, 3) := by decide +kernel
theorem dX5_isDigit_12 : decode cX5_isDigit 12 = .ok (.iconst 1, 1) := by decide +kernel
theorem dX5_isDigit_13 : decode cX5_isDigit 13 = .ok (.goto 4, 3) := by decide +kernel
theorem dX5_isDigit_16 : decode cX5_isDigit 16 = .ok (.iconst 0, 1) := by decide +kernel
theorem dX5_isDigit_17 : decode cX5_isDigit 17 = .ok (.ireturn, 1) := by decide +kernel
theorem dX5_isLetter_0 : decode cX5_isLetter 0 = .ok (.iload_n 0, 1) := by decide +kernel
theorem dX5_isLetter_1 : decode cX5_isLetter 1 = .ok (.bipush 97, 2) := by decide +kernel
theorem dX5_isLetter_3 : decode cX5_isLetter 3 = .ok (.if_icmp .lt 13, 3) := by decide +kernel
theorem dX5_isLetter_6 : decode cX5_isLetter 6 = .ok (.iload_n 0, 1) := by decide +kernel
theorem dX5_isLetter_7 : decode cX5_isLetter 7 = .ok (.bipush 122, 2) := by decide +kernel
theorem dX5_isLetter_9 : decode cX5_isLetter 9 = .ok (.if_icmp .gt 7, 3) := by decide +kernel
theorem dX5_isLetter_12 : decode cX5_isLetter 12 = .ok (.iconst 1, 1) := by decide +kernel
theorem dX5_isLetter_13 : decode cX5_isLetter 13 = .ok (.goto 4, 3) := by decide +kernel
theorem dX5_isLetter_16 : decode cX5_isLetter 16 = .ok (.iconst 0, 1) := by decide +kernel
theorem dX5_isLetter_17 : decode cX5_isLetter 17 = .ok (.ireturn, 1) := by decide +kernel
theorem dX5_hasBit_0 : decode cX5_hasBit 0 = .ok (.iload_n 0, 1) := by decide +kernel
theorem dX5_hasBit_1 : decode cX5_hasBit 1 = .ok (.iload_n 1, 1) := by decide +kernel
theorem dX5_hasBit_2 : decode cX5_hasBit 2 = .ok (.ishr, 1) := by decide +kernel
theorem dX5_hasBit_3 : decode cX5_hasBit 3 = .ok (.iconst 1, 1) := by decide +kernel
theorem dX5_hasBit_4 : decode cX5_hasBit 4 = .ok (.iand, 1) := by decide +kernel
theorem dX5_hasBit_5 : decode cX5_hasBit 5 = .ok (.ifCond .eq 7, 3) := by decide +kernel
theorem dX5_hasBit_8 : decode cX5_hasBit 8 = .ok (.iconst 1, 1) := by decide +kernel
theorem dX5_hasBit_9 : decode cX5_hasBit 9 = .ok (.goto 4, 3) := by decide +kernel
theorem dX5_hasBit_12 : decode cX5_hasBit 12 = .ok (.iconst 0, 1) := by decide +kernel
theorem dX5_hasBit_13 : decode cX5_hasBit 13 = .ok (.ireturn, 1) := by decide +kernel
theorem dX5_lowestOf_0 : decode cX5_lowestOf 0 = .ok (.iconst 0, 1) := by decide +kernel
theorem dX5_lowestOf_1 : decode cX5_lowestOf 1 = .ok (.istore_n 1, 1) := by decide +kernel
theorem dX5_lowestOf_2 : decode cX5_lowestOf 2 = .ok (.iload_n 1, 1) := by decide +kernel
theorem dX5_lowestOf_3 : decode cX5_lowestOf 3 = .ok (.bipush 24, 2) := by decide +kernel
theorem dX5_lowestOf_5 : decode cX5_lowestOf 5 = .ok (.if_icmp .ge 19, 3) := by decide +kernel
theorem dX5_lowestOf_8 : decode cX5_lowestOf 8 = .ok (.iload_n 0, 1) := by decide +kernel
theorem dX5_lowestOf_9 : decode cX5_lowestOf 9 = .ok (.iload_n 1, 1) := by decide +kernel
theorem dX5_lowestOf_10 : decode cX5_lowestOf 10 = .ok (.invokestatic 187, 3) := by decide +kernel
theorem dX5_lowestOf_13 : decode cX5_lowestOf 13 = .ok (.ifCond .eq 5, 3) := by decide +kernel
theorem dX5_lowestOf_16 : decode cX5_lowestOf 16 = .ok (.iload_n 1, 1) := by decide +kernel
theorem dX5_lowestOf_17 : decode cX5_lowestOf 17 = .ok (.ireturn, 1) := by decide +kernel
theorem dX5_lowestOf_18 : decode cX5_lowestOf 18 = .ok (.iinc 1 1, 3) := by decide +kernel
theorem dX5_lowestOf_21 : decode cX5_lowestOf 21 = .ok (.goto (-19), 3) := by decide +kernel
theorem dX5_lowestOf_24 : decode cX5_lowestOf 24 = .ok (.iconst (-1), 1) := by decide +kernel
theorem dX5_lowestOf_25 : decode cX5_lowestOf 25 = .ok (.ireturn, 1) := by decide +kernel
theorem dX6_init_0 : decode cX6_init 0 = .ok (.aload_n 0, 1) := by decide +kernel
theorem dX6_init_1 : decode cX6_init 1 = .ok (.invokespecial 1, 3) := by decide +kernel
theorem dX6_init_4 : decode cX6_init 4 = .ok (.aload_n 0, 1) := by decide +kernel
theorem dX6_init_5 : decode cX6_init 5 = .ok (.sipush 300, 3) := by decide +kernel
theorem dX6_init_8 : decode cX6_init 8 = .ok (.newarray .byte, 2) := by decide +kernel
theorem dX6_init_10 : decode cX6_init 10 = .ok (.putfield 7, 3) := by decide +kernel
theorem dX6_init_13 : decode cX6_init 13 = .ok (.aload_n 0, 1) := by decide +kernel
theorem dX6_init_14 : decode cX6_init 14 = .ok (.sipush 10000, 3) := by decide +kernel
theorem dX6_init_17 : decode cX6_init 17 = .ok (.putfield 13, 3) := by decide +kernel
theorem dX6_init_20 : decode cX6_init 20 = .ok (.aload_n 0, 1) := by decide +kernel
theorem dX6_init_21 : decode cX6_init 21 = .ok (.bipush 10, 2) := by decide +kernel
theorem dX6_init_23 : decode cX6_init 23 = .ok (.putfield 17, 3) := by decide +kernel
theorem dX6_init_26 : decode cX6_init 26 = .ok (.aload_n 0, 1) := by decide +kernel
theorem dX6_init_27 : decode cX6_init 27 = .ok (.bipush 8, 2) := by decide +kernel
theorem dX6_init_29 : decode cX6_init 29 = .ok (.newarray .int, 2) := by decide +kernel
theorem dX6_init_31 : decode cX6_init 31 = .ok (.putfield 20, 3) := by decide +kernel
theorem dX6_init_34 : decode cX6_init 34 = .ok (.aload_n 0, 1) := by decide +kernel
theorem dX6_init_35 : decode cX6_init 35 = .ok (.bipush 8, 2) := by decide +kernel
theorem dX6_init_37 : decode cX6_init 37 = .ok (.newarray .int, 2) := by decide +kernel
theorem dX6_init_39 : decode cX6_init 39 = .ok (.putfield 24, 3) := by decide +kernel
theorem dX6_init_42 : decode cX6_init 42 = .ok (.aload_n 0, 1) := by decide +kernel
theorem dX6_init_43 : decode cX6_init 43 = .ok (.sipush 192, 3) := by decide +kernel
theorem dX6_init_46 : decode cX6_init 46 = .ok (.newarray .boolean, 2) := by decide +kernel
theorem dX6_init_48 : decode cX6_init 48 = .ok (.putfield 27, 3) := by decide +kernel
theorem dX6_init_51 : decode cX6_init 51 = .ok (.aload_n 0, 1) := by decide +kernel
theorem dX6_init_52 : decode cX6_init 52 = .ok (.sipush 192, 3) := by decide +kernel
theorem dX6_init_55 : decode cX6_init 55 = .ok (.newarray .int, 2) := by decide +kernel
theorem dX6_init_57 : decode cX6_init 57 = .ok (.putfield 31, 3) := by decide +kernel
theorem dX6_init_60 : decode cX6_init 60 = .ok (.aload_n 0, 1) := by decide +kernel
theorem dX6_init_61 : decode cX6_init 61 = .ok (.sipush 192, 3) := by decide +kernel
theorem dX6_init_64 : decode cX6_init 64 = .ok (.newarray .int, 2) := by decide +kernel
theorem dX6_init_66 : decode cX6_init 66 = .ok (.putfield 34, 3) := by decide +kernel
theorem dX6_init_69 : decode cX6_init 69 = .ok (.aload_n 0, 1) := by decide +kernel
theorem dX6_init_70 : decode cX6_init 70 = .ok (.sipush 192, 3) := by decide +kernel
theorem dX6_init_73 : decode cX6_init 73 = .ok (.newarray .int, 2) := by decide +kernel
theorem dX6_init_75 : decode cX6_init 75 = .ok (.putfield 37, 3) := by decide +kernel
theorem dX6_init_78 : decode cX6_init 78 = .ok (.aload_n 0, 1) := by decide +kernel
theorem dX6_init_79 : decode cX6_init 79 = .ok (.sipush 192, 3) := by decide +kernel
theorem dX6_init_82 : decode cX6_init 82 = .ok (.newarray .int, 2) := by decide +kernel
theorem dX6_init_84 : decode cX6_init 84 = .ok (.putfield 40, 3) := by decide +kernel
theorem dX6_init_87 : decode cX6_init 87 = .ok (.aload_n 0, 1) := by decide +kernel
theorem dX6_init_88 : decode cX6_init 88 = .ok (.sipush 192, 3) := by decide +kernel
theorem dX6_init_91 : decode cX6_init 91 = .ok (.newarray .int, 2) := by decide +kernel
theorem dX6_init_93 : decode cX6_init 93 = .ok (.putfield 43, 3) := by decide +kernel
theorem dX6_init_96 : decode cX6_init 96 = .ok (.aload_n 0, 1) := by decide +kernel
theorem dX6_init_97 : decode cX6_init 97 = .ok (.sipush 2304, 3) := by decide +kernel
theorem dX6_init_100 : decode cX6_init 100 = .ok (.newarray .byte, 2) := by decide +kernel
theorem dX6_init_102 : decode cX6_init 102 = .ok (.putfield 46, 3) := by decide +kernel
theorem dX6_init_105 : decode cX6_init 105 = .ok (.aload_n 0, 1) := by decide +kernel
theorem dX6_init_106 : decode cX6_init 106 = .ok (.bipush 12, 2) := by decide +kernel
theorem dX6_init_108 : decode cX6_init 108 = .ok (.newarray .byte, 2) := by decide +kernel
theorem dX6_init_110 : decode cX6_init 110 = .ok (.putfield 49, 3) := by decide +kernel
theorem dX6_init_113 : decode cX6_init 113 = .ok (.aload_n 0, 1) := by decide +kernel
theorem dX6_init_114 : decode cX6_init 114 = .ok (.bipush 16, 2) := by decide +kernel
theorem dX6_init_116 : decode cX6_init 116 = .ok (.newarray .int, 2) := by decide +kernel
theorem dX6_init_118 : decode cX6_init 118 = .ok (.putfield 52, 3) := by decide +kernel
theorem dX6_init_121 : decode cX6_init 121 = .ok (.aload_n 0, 1) := by decide +kernel
theorem dX6_init_122 : decode cX6_init 122 = .ok (.bipush 16, 2) := by decide +kernel
theorem dX6_init_124 : decode cX6_init 124 = .ok (.newarray .int, 2) := by decide +kernel
theorem dX6_init_126 : decode cX6_init 126 = .ok (.putfield 55, 3) := by decide +kernel
theorem dX6_init_129 : decode cX6_init 129 = .ok (.aload_n 0, 1) := by decide +kernel
theorem dX6_init_130 : decode cX6_init 130 = .ok (.bipush 16, 2) := by decide +kernel
theorem dX6_init_132 : decode cX6_init 132 = .ok (.newarray .int, 2) := by decide +kernel
theorem dX6_init_134 : decode cX6_init 134 = .ok (.putfield 58, 3) := by decide +kernel
theorem dX6_init_137 : decode cX6_init 137 = .ok (.aload_n 0, 1) := by decide +kernel
theorem dX6_init_138 : decode cX6_init 138 = .ok (.sipush 169, 3) := by decide +kernel
theorem dX6_init_141 : decode cX6_init 141 = .ok (.newarray .int, 2) := by decide +kernel
theorem dX6_init_143 : decode cX6_init 143 = .ok (.putfield 61, 3) := by decide +kernel
theorem dX6_init_146 : decode cX6_init 146 = .ok (.aload_n 0, 1) := by decide +kernel
theorem dX6_init_147 : decode cX6_init 147 = .ok (.bipush 24, 2) := by decide +kernel
theorem dX6_init_149 : decode cX6_init 149 = .ok (.newarray .int, 2) := by decide +kernel
theorem dX6_init_151 : decode cX6_init 151 = .ok (.putfield 64, 3) := by decide +kernel
theorem dX6_init_154 : decode cX6_init 154 = .ok (.return_, 1) := by decide +kernel
theorem dX6_lies_0 : decode cX6_lies 0 = .ok (.iload_n 0, 1) := by decide +kernel
theorem dX6_lies_1 : decode cX6_lies 1 = .ok (.iload_n 1, 1) := by decide +kernel
theorem dX6_lies_2 : decode cX6_lies 2 = .ok (.if_icmp .lt 12, 3) := by decide +kernel
theorem dX6_lies_5 : decode cX6_lies 5 = .ok (.iload_n 0, 1) := by decide +kernel
theorem dX6_lies_6 : decode cX6_lies 6 = .ok (.iload_n 2, 1) := by decide +kernel
theorem dX6_lies_7 : decode cX6_lies 7 = .ok (.if_icmp .gt 7, 3) := by decide +kernel
theorem dX6_lies_10 : decode cX6_lies 10 = .ok (.iconst 1, 1) := by decide +kernel
theorem dX6_lies_11 : decode cX6_lies 11 = .ok (.goto 4, 3) := by decide +kernel
theorem dX6_lies_14 : decode cX6_lies 14 = .ok (.iconst 0, 1) := by decide +kernel
theorem dX6_lies_15 : decode cX6_lies 15 = .ok (.ireturn, 1) := by decide +kernel
theorem dX6_push_0 : decode cX6_push 0 = .ok (.bipush 24, 2) := by decide +kernel
theorem dX6_push_2 : decode cX6_push 2 = .ok (.istore_n 2, 1) := by decide +kernel
theorem dX6_push_3 : decode cX6_push 3 = .ok (.iload_n 2, 1) := by decide +kernel
theorem dX6_push_4 : decode cX6_push 4 = .ok (.ifCond .lt 32, 3) := by decide +kernel
theorem dX6_push_7 : decode cX6_push 7 = .ok (.aload_n 0, 1) := by decide +kernel
theorem dX6_push_8 : decode cX6_push 8 = .ok (.getfield 7, 3) := by decide +kernel
theorem dX6_push_11 : decode cX6_push 11 = .ok (.aload_n 0, 1) := by decide +kernel
theorem dX6_push_12 : decode cX6_push 12 = .ok (.getfield 67, 3) := by decide +kernel
theorem dX6_push_15 : decode cX6_push 15 = .ok (.iload_n 1, 1) := by decide +kernel
theorem dX6_push_16 : decode cX6_push 16 = .ok (.iload_n 2, 1) := by decide +kernel
theorem dX6_push_17 : decode cX6_push 17 = .ok (.ishr, 1) := by decide +kernel
theorem dX6_push_18 : decode cX6_push 18 = .ok (.i2b, 1) := by decide +kernel
theorem dX6_push_19 : decode cX6_push 19 = .ok (.bastore, 1) := by decide +kernel
theorem dX6_push_20 : decode cX6_push 20 = .ok (.aload_n 0, 1) := by decide +kernel
theorem dX6_push_21 : decode cX6_push 21 = .ok (.dup, 1) := by decide +kernel
theorem dX6_push_22 : decode cX6_push 22 = .ok (.getfield 67, 3) := by decide +kernel
theorem dX6_push_25 : decode cX6_push 25 = .ok (.iconst 1, 1) := by decide +kernel
theorem dX6_push_26 : decode cX6_push 26 = .ok (.iadd, 1) := by decide +kernel
theorem dX6_push_27 : decode cX6_push 27 = .ok (.putfield 67, 3) := by decide +kernel
theorem dX6_push_30 : decode cX6_push 30 = .ok (.iinc 2 (-8), 3) := by decide +kernel
theorem dX6_push_33 : decode cX6_push 33 = .ok (.goto (-30), 3) := by decide +kernel
theorem dX6_push_36 : decode cX6_push 36 = .ok (.return_, 1) := by decide +kernel
theorem dX6_feed_0 : decode cX6_feed 0 = .ok (.aload_n 0, 1) := by decide +kernel
theorem dX6_feed_1 : decode cX6_feed 1 = .ok (.getfield 67, 3) := by decide +kernel
theorem dX6_feed_4 : decode cX6_feed 4 = .ok (.bipush 20, 2) := by decide +kernel
theorem dX6_feed_6 : decode cX6_feed 6 = .ok (.iadd, 1) := by decide +kernel
theorem dX6_feed_7 : decode cX6_feed 7 = .ok (.sipush 300, 3) := by decide +kernel
theorem dX6_feed_10 : decode cX6_feed 10 = .ok (.if_icmp .le 5, 3) := by decide +kernel
theorem dX6_feed_13 : decode cX6_feed 13 = .ok (.iconst (-1), 1) := by decide +kernel
theorem dX6_feed_14 : decode cX6_feed 14 = .ok (.ireturn, 1) := by decide +kernel
theorem dX6_feed_15 : decode cX6_feed 15 = .ok (.aload_n 0, 1) := by decide +kernel
theorem dX6_feed_16 : decode cX6_feed 16 = .ok (.iload_n 1, 1) := by decide +kernel
theorem dX6_feed_17 : decode cX6_feed 17 = .ok (.invokevirtual 70, 3) := by decide +kernel
theorem dX6_feed_20 : decode cX6_feed 20 = .ok (.aload_n 0, 1) := by decide +kernel
theorem dX6_feed_21 : decode cX6_feed 21 = .ok (.iload_n 2, 1) := by decide +kernel
theorem dX6_feed_22 : decode cX6_feed 22 = .ok (.invokevirtual 70, 3) := by decide +kernel
theorem dX6_feed_25 : decode cX6_feed 25 = .ok (.aload_n 0, 1) := by decide +kernel
theorem dX6_feed_26 : decode cX6_feed 26 = .ok (.iload_n 3, 1) := by decide +kernel
theorem dX6_feed_27 : decode cX6_feed 27 = .ok (.invokevirtual 70, 3) := by decide +kernel
theorem dX6_feed_30 : decode cX6_feed 30 = .ok (.aload_n 0, 1) := by decide +kernel
theorem dX6_feed_31 : decode cX6_feed 31 = .ok (.iload 4, 2) := by decide +kernel
theorem dX6_feed_33 : decode cX6_feed 33 = .ok (.invokevirtual 70, 3) := by decide +kernel
theorem dX6_feed_36 : decode cX6_feed 36 = .ok (.aload_n 0, 1) := by decide +kernel
theorem dX6_feed_37 : decode cX6_feed 37 = .ok (.iload 5, 2) := by decide +kernel
theorem dX6_feed_39 : decode cX6_feed 39 = .ok (.invokevirtual 70, 3) := by decide +kernel
theorem dX6_feed_42 : decode cX6_feed 42 = .ok (.aload_n 0, 1) := by decide +kernel
theorem dX6_feed_43 : decode cX6_feed 43 = .ok (.getfield 67, 3) := by decide +kernel
theorem dX6_feed_46 : decode cX6_feed 46 = .ok (.ireturn, 1) := by decide +kernel
theorem dX6_here_0 : decode cX6_here 0 = .ok (.aload_n 0, 1) := by decide +kernel
theorem dX6_here_1 : decode cX6_here 1 = .ok (.getfield 74, 3) := by decide +kernel
theorem dX6_here_4 : decode cX6_here 4 = .ok (.aload_n 0, 1) := by decide +kernel
theorem dX6_here_5 : decode cX6_here 5 = .ok (.getfield 77, 3) := by decide +kernel
theorem dX6_here_8 : decode cX6_here 8 = .ok (.if_icmp .ge 19, 3) := by decide +kernel
theorem dX6_here_11 : decode cX6_here 11 = .ok (.aload_n 0, 1) := by decide +kernel
theorem dX6_here_12 : decode cX6_here 12 = .ok (.getfield 7, 3) := by decide +kernel
theorem dX6_here_15 : decode cX6_here 15 = .ok (.aload_n 0, 1) := by decide +kernel
theorem dX6_here_16 : decode cX6_here 16 = .ok (.getfield 74, 3) := by decide +kernel
theorem dX6_here_19 : decode cX6_here 19 = .ok (.baload, 1) := by decide +kernel
theorem dX6_here_20 : decode cX6_here 20 = .ok (.sipush 255, 3) := by decide +kernel
theorem dX6_here_23 : decode cX6_here 23 = .ok (.iand, 1) := by decide +kernel
theorem dX6_here_24 : decode cX6_here 24 = .ok (.goto 4, 3) := by decide +kernel
theorem dX6_here_27 : decode cX6_here 27 = .ok (.iconst 0, 1) := by decide +kernel
theorem dX6_here_28 : decode cX6_here 28 = .ok (.ireturn, 1) := by decide +kernel
theorem dX6_seesDigit_0 : decode cX6_seesDigit 0 = .ok (.aload_n 0, 1) := by decide +kernel
theorem dX6_seesDigit_1 : decode cX6_seesDigit 1 = .ok (.invokevirtual 80, 3) := by decide +kernel
theorem dX6_seesDigit_4 : decode cX6_seesDigit 4 = .ok (.bipush 48, 2) := by decide +kernel
theorem dX6_seesDigit_6 : decode cX6_seesDigit 6 = .ok (.bipush 57, 2) := by decide +kernel
theorem dX6_seesDigit_8 : decode cX6_seesDigit 8 = .ok (.invokestatic 84, 3) := by decide +kernel
theorem dX6_seesDigit_11 : decode cX6_seesDigit 11 = .ok (.ireturn, 1) := by decide +kernel
theorem dX6_tears_0 : decode cX6_tears 0 = .ok (.aload_n 0, 1) := by decide +kernel
theorem dX6_tears_1 : decode cX6_tears 1 = .ok (.getfield 88, 3) := by decide +kernel
theorem dX6_tears_4 : decode cX6_tears 4 = .ok (.iconst (-1), 1) := by decide +kernel
theorem dX6_tears_5 : decode cX6_tears 5 = .ok (.if_icmp .ne 8, 3) := by decide +kernel
theorem dX6_tears_8 : decode cX6_tears 8 = .ok (.aload_n 0, 1) := by decide +kernel
theorem dX6_tears_9 : decode cX6_tears 9 = .ok (.iload_n 1, 1) := by decide +kernel
theorem dX6_tears_10 : decode cX6_tears 10 = .ok (.putfield 88, 3) := by decide +kernel
theorem dX6_tears_13 : decode cX6_tears 13 = .ok (.return_, 1) := by decide +kernel
theorem dX6_number_0 : decode cX6_number 0 = .ok (.aload_n 0, 1) := by decide +kernel
theorem dX6_number_1 : decode cX6_number 1 = .ok (.aload_n 0, 1) := by decide +kernel
theorem dX6_number_2 : decode cX6_number 2 = .ok (.getfield 74, 3) := by decide +kernel
theorem dX6_number_5 : decode cX6_number 5 = .ok (.putfield 91, 3) := by decide +kernel
theorem dX6_number_8 : decode cX6_number 8 = .ok (.iconst 0, 1) := by decide +kernel
theorem dX6_number_9 : decode cX6_number 9 = .ok (.istore_n 3, 1) := by decide +kernel
theorem dX6_number_10 : decode cX6_number 10 = .ok (.aload_n 0, 1) := by decide +kernel
theorem dX6_number_11 : decode cX6_number 11 = .ok (.invokevirtual 94, 3) := by decide +kernel
theorem dX6_number_14 : decode cX6_number 14 = .ok (.ifCond .ne 11, 3) := by decide +kernel
theorem dX6_number_17 : decode cX6_number 17 = .ok (.aload_n 0, 1) := by decide +kernel
theorem dX6_number_18 : decode cX6_number 18 = .ok (.aload_n 0, 1) := by decide +kernel
theorem dX6_number_19 : decode cX6_number 19 = .ok (.getfield 74, 3) := by decide +kernel
theorem dX6_number_22 : decode cX6_number 22 = .ok (.invokevirtual 98, 3) := by decide +kernel
theorem dX6_number_25 : decode cX6_number 25 = .ok (.aload_n 0, 1) := by decide +kernel
theorem dX6_number_26 : decode cX6_number 26 = .ok (.getfield 88, 3) := by decide +kernel
theorem dX6_number_29 : decode cX6_number 29 = .ok (.iconst (-1), 1) := by decide +kernel
theorem dX6_number_30 : decode cX6_number 30 = .ok (.if_icmp .ne 57, 3) := by decide +kernel
theorem dX6_number_33 : decode cX6_number 33 = .ok (.aload_n 0, 1) := by decide +kernel
theorem dX6_number_34 : decode cX6_number 34 = .ok (.invokevirtual 94, 3) := by decide +kernel
theorem dX6_number_37 : decode cX6_number 37 = .ok (.ifCond .eq 50, 3) := by decide +kernel
