-- ===== PART A: goes FIRST, ahead of the names: the tables' words, and 'selects' of the private methods out of them =====
/-- a private method of a class that the tables say can be made, by its rows of tables_1 -/
def lw_okq (q : MethodName × Nat) : Prop := (q.1.cls ≠ "java/lang/invoke/MethodHandle" ∧ q.1.cls ≠ "java/lang/invoke/VarHandle") ∧ Cond.instantiable q.1.cls q.2 ∈ tables_1 ∧ Cond.privateMethod q.1 ∈ tables_1 ∧ Cond.instanceMethod q.1 ∈ tables_1
theorem lw_p0 : lw_okq (⟨"StuckHands", "isTickTaken", "(I)Z"⟩, 6) := ⟨⟨by decide +kernel, by decide +kernel⟩, List.mem_of_getElem? (i := 10) (by decide +kernel), List.mem_of_getElem? (i := 127) (by decide +kernel), List.mem_of_getElem? (i := 128) (by decide +kernel)⟩
theorem lw_p1 : lw_okq (⟨"StuckHands$RowReader", "readRow", "(LStuckHands$Row;)Z"⟩, 2) := ⟨⟨by decide +kernel, by decide +kernel⟩, List.mem_of_getElem? (i := 179) (by decide +kernel), List.mem_of_getElem? (i := 239) (by decide +kernel), List.mem_of_getElem? (i := 240) (by decide +kernel)⟩
theorem lw_p2 : lw_okq (⟨"StuckHands$RowReader", "readThread", "(LStuckHands$Row;)Z"⟩, 2) := ⟨⟨by decide +kernel, by decide +kernel⟩, List.mem_of_getElem? (i := 179) (by decide +kernel), List.mem_of_getElem? (i := 243) (by decide +kernel), List.mem_of_getElem? (i := 244) (by decide +kernel)⟩
theorem lw_p3 : lw_okq (⟨"StuckHands$RowReader", "readState", "(LStuckHands$Row;)Z"⟩, 2) := ⟨⟨by decide +kernel, by decide +kernel⟩, List.mem_of_getElem? (i := 179) (by decide +kernel), List.mem_of_getElem? (i := 256) (by decide +kernel), List.mem_of_getElem? (i := 257) (by decide +kernel)⟩
theorem lw_p4 : lw_okq (⟨"StuckHands$RowReader", "readCounter", "(LStuckHands$Row;)Z"⟩, 2) := ⟨⟨by decide +kernel, by decide +kernel⟩, List.mem_of_getElem? (i := 179) (by decide +kernel), List.mem_of_getElem? (i := 260) (by decide +kernel), List.mem_of_getElem? (i := 261) (by decide +kernel)⟩
theorem lw_p5 : lw_okq (⟨"StuckHands$RowReader", "readHeld", "(LStuckHands$Row;)Z"⟩, 2) := ⟨⟨by decide +kernel, by decide +kernel⟩, List.mem_of_getElem? (i := 179) (by decide +kernel), List.mem_of_getElem? (i := 264) (by decide +kernel), List.mem_of_getElem? (i := 265) (by decide +kernel)⟩
theorem lw_p6 : lw_okq (⟨"StuckHands$RowReader", "readHeldLock", "(LStuckHands$Row;)Z"⟩, 2) := ⟨⟨by decide +kernel, by decide +kernel⟩, List.mem_of_getElem? (i := 179) (by decide +kernel), List.mem_of_getElem? (i := 268) (by decide +kernel), List.mem_of_getElem? (i := 269) (by decide +kernel)⟩
theorem lw_p7 : lw_okq (⟨"StuckHands$RowReader", "readWait", "(LStuckHands$Row;)Z"⟩, 2) := ⟨⟨by decide +kernel, by decide +kernel⟩, List.mem_of_getElem? (i := 179) (by decide +kernel), List.mem_of_getElem? (i := 286) (by decide +kernel), List.mem_of_getElem? (i := 287) (by decide +kernel)⟩
theorem lw_p8 : lw_okq (⟨"StuckHands$RowReader", "readCalls", "(LStuckHands$Row;)Z"⟩, 2) := ⟨⟨by decide +kernel, by decide +kernel⟩, List.mem_of_getElem? (i := 179) (by decide +kernel), List.mem_of_getElem? (i := 290) (by decide +kernel), List.mem_of_getElem? (i := 291) (by decide +kernel)⟩
theorem lw_p9 : lw_okq (⟨"StuckHands$Picture", "measureFrom", "(LStuckHands$Row;)V"⟩, 11) := ⟨⟨by decide +kernel, by decide +kernel⟩, List.mem_of_getElem? (i := 130) (by decide +kernel), List.mem_of_getElem? (i := 307) (by decide +kernel), List.mem_of_getElem? (i := 308) (by decide +kernel)⟩
theorem lw_p10 : lw_okq (⟨"StuckHands$Picture", "followChainOf", "(I)V"⟩, 11) := ⟨⟨by decide +kernel, by decide +kernel⟩, List.mem_of_getElem? (i := 130) (by decide +kernel), List.mem_of_getElem? (i := 325) (by decide +kernel), List.mem_of_getElem? (i := 326) (by decide +kernel)⟩
theorem lw_p11 : lw_okq (⟨"StuckHands$LockOrder", "learnRow", "(LStuckHands$Row;)V"⟩, 4) := ⟨⟨by decide +kernel, by decide +kernel⟩, List.mem_of_getElem? (i := 42) (by decide +kernel), List.mem_of_getElem? (i := 346) (by decide +kernel), List.mem_of_getElem? (i := 347) (by decide +kernel)⟩
theorem lw_p12 : lw_okq (⟨"StuckHands$LockOrder", "findRing", "()V"⟩, 4) := ⟨⟨by decide +kernel, by decide +kernel⟩, List.mem_of_getElem? (i := 42) (by decide +kernel), List.mem_of_getElem? (i := 351) (by decide +kernel), List.mem_of_getElem? (i := 352) (by decide +kernel)⟩
theorem lw_p13 : lw_okq (⟨"StuckHands$LockOrder", "measureWaysBack", "(I)V"⟩, 4) := ⟨⟨by decide +kernel, by decide +kernel⟩, List.mem_of_getElem? (i := 42) (by decide +kernel), List.mem_of_getElem? (i := 355) (by decide +kernel), List.mem_of_getElem? (i := 356) (by decide +kernel)⟩
theorem lw_p14 : lw_okq (⟨"StuckHands$LockOrder", "stepBack", "(III)I"⟩, 4) := ⟨⟨by decide +kernel, by decide +kernel⟩, List.mem_of_getElem? (i := 42) (by decide +kernel), List.mem_of_getElem? (i := 359) (by decide +kernel), List.mem_of_getElem? (i := 360) (by decide +kernel)⟩
theorem lw_p15 : lw_okq (⟨"StuckHands$LockOrder", "sizeOfRingFrom", "(I)I"⟩, 4) := ⟨⟨by decide +kernel, by decide +kernel⟩, List.mem_of_getElem? (i := 42) (by decide +kernel), List.mem_of_getElem? (i := 363) (by decide +kernel), List.mem_of_getElem? (i := 364) (by decide +kernel)⟩
def lw_privs_1 : List (MethodName × Nat) := [(⟨"StuckHands", "isTickTaken", "(I)Z"⟩, 6), (⟨"StuckHands$RowReader", "readRow", "(LStuckHands$Row;)Z"⟩, 2), (⟨"StuckHands$RowReader", "readThread", "(LStuckHands$Row;)Z"⟩, 2), (⟨"StuckHands$RowReader", "readState", "(LStuckHands$Row;)Z"⟩, 2), (⟨"StuckHands$RowReader", "readCounter", "(LStuckHands$Row;)Z"⟩, 2), (⟨"StuckHands$RowReader", "readHeld", "(LStuckHands$Row;)Z"⟩, 2), (⟨"StuckHands$RowReader", "readHeldLock", "(LStuckHands$Row;)Z"⟩, 2), (⟨"StuckHands$RowReader", "readWait", "(LStuckHands$Row;)Z"⟩, 2), (⟨"StuckHands$RowReader", "readCalls", "(LStuckHands$Row;)Z"⟩, 2), (⟨"StuckHands$Picture", "measureFrom", "(LStuckHands$Row;)V"⟩, 11), (⟨"StuckHands$Picture", "followChainOf", "(I)V"⟩, 11), (⟨"StuckHands$LockOrder", "learnRow", "(LStuckHands$Row;)V"⟩, 4), (⟨"StuckHands$LockOrder", "findRing", "()V"⟩, 4), (⟨"StuckHands$LockOrder", "measureWaysBack", "(I)V"⟩, 4), (⟨"StuckHands$LockOrder", "stepBack", "(III)I"⟩, 4), (⟨"StuckHands$LockOrder", "sizeOfRingFrom", "(I)I"⟩, 4)]
theorem lw_r1 : ∀ q ∈ lw_privs_1, lw_okq q := List.forall_mem_cons.mpr ⟨lw_p0, List.forall_mem_cons.mpr ⟨lw_p1, List.forall_mem_cons.mpr ⟨lw_p2, List.forall_mem_cons.mpr ⟨lw_p3, List.forall_mem_cons.mpr ⟨lw_p4, List.forall_mem_cons.mpr ⟨lw_p5, List.forall_mem_cons.mpr ⟨lw_p6, List.forall_mem_cons.mpr ⟨lw_p7, List.forall_mem_cons.mpr ⟨lw_p8, List.forall_mem_cons.mpr ⟨lw_p9, List.forall_mem_cons.mpr ⟨lw_p10, List.forall_mem_cons.mpr ⟨lw_p11, List.forall_mem_cons.mpr ⟨lw_p12, List.forall_mem_cons.mpr ⟨lw_p13, List.forall_mem_cons.mpr ⟨lw_p14, List.forall_mem_cons.mpr ⟨lw_p15, fun _ h => absurd h List.not_mem_nil⟩⟩⟩⟩⟩⟩⟩⟩⟩⟩⟩⟩⟩⟩⟩⟩
theorem lw_p16 : lw_okq (⟨"StuckHands$LockOrder", "keepRing", "(II)V"⟩, 4) := ⟨⟨by decide +kernel, by decide +kernel⟩, List.mem_of_getElem? (i := 42) (by decide +kernel), List.mem_of_getElem? (i := 369) (by decide +kernel), List.mem_of_getElem? (i := 370) (by decide +kernel)⟩
theorem lw_p17 : lw_okq (⟨"StuckHands$LockOrder", "lowestBehind", "(II)I"⟩, 4) := ⟨⟨by decide +kernel, by decide +kernel⟩, List.mem_of_getElem? (i := 42) (by decide +kernel), List.mem_of_getElem? (i := 373) (by decide +kernel), List.mem_of_getElem? (i := 374) (by decide +kernel)⟩
theorem lw_p18 : lw_okq (⟨"StuckHands", "pictureAt", "(I)LStuckHands$Picture;"⟩, 6) := ⟨⟨by decide +kernel, by decide +kernel⟩, List.mem_of_getElem? (i := 10) (by decide +kernel), List.mem_of_getElem? (i := 381) (by decide +kernel), List.mem_of_getElem? (i := 382) (by decide +kernel)⟩
theorem lw_p19 : lw_okq (⟨"StuckHands", "rowAt", "(II)LStuckHands$Row;"⟩, 6) := ⟨⟨by decide +kernel, by decide +kernel⟩, List.mem_of_getElem? (i := 10) (by decide +kernel), List.mem_of_getElem? (i := 389) (by decide +kernel), List.mem_of_getElem? (i := 390) (by decide +kernel)⟩
theorem lw_p20 : lw_okq (⟨"StuckHands$Picture", "sizeOfRingFrom", "(I)I"⟩, 11) := ⟨⟨by decide +kernel, by decide +kernel⟩, List.mem_of_getElem? (i := 130) (by decide +kernel), List.mem_of_getElem? (i := 411) (by decide +kernel), List.mem_of_getElem? (i := 412) (by decide +kernel)⟩
theorem lw_p21 : lw_okq (⟨"StuckHands$Picture", "walkFrom", "(II)I"⟩, 11) := ⟨⟨by decide +kernel, by decide +kernel⟩, List.mem_of_getElem? (i := 130) (by decide +kernel), List.mem_of_getElem? (i := 423) (by decide +kernel), List.mem_of_getElem? (i := 424) (by decide +kernel)⟩
theorem lw_p22 : lw_okq (⟨"StuckHands", "isStuck", "(I)Z"⟩, 6) := ⟨⟨by decide +kernel, by decide +kernel⟩, List.mem_of_getElem? (i := 10) (by decide +kernel), List.mem_of_getElem? (i := 465) (by decide +kernel), List.mem_of_getElem? (i := 466) (by decide +kernel)⟩
theorem lw_p23 : lw_okq (⟨"StuckHands$Row", "hasCallsOf", "(LStuckHands$Row;)Z"⟩, 7) := ⟨⟨by decide +kernel, by decide +kernel⟩, List.mem_of_getElem? (i := 197) (by decide +kernel), List.mem_of_getElem? (i := 473) (by decide +kernel), List.mem_of_getElem? (i := 474) (by decide +kernel)⟩
theorem lw_p24 : lw_okq (⟨"StuckHands", "workBetween", "(LStuckHands$Picture;LStuckHands$Picture;II)I"⟩, 6) := ⟨⟨by decide +kernel, by decide +kernel⟩, List.mem_of_getElem? (i := 10) (by decide +kernel), List.mem_of_getElem? (i := 493) (by decide +kernel), List.mem_of_getElem? (i := 494) (by decide +kernel)⟩
theorem lw_p25 : lw_okq (⟨"StuckHands$Picture", "neighboursOf", "(II)I"⟩, 11) := ⟨⟨by decide +kernel, by decide +kernel⟩, List.mem_of_getElem? (i := 130) (by decide +kernel), List.mem_of_getElem? (i := 527) (by decide +kernel), List.mem_of_getElem? (i := 528) (by decide +kernel)⟩
theorem lw_p26 : lw_okq (⟨"StuckHands", "countAhead", "(I)I"⟩, 6) := ⟨⟨by decide +kernel, by decide +kernel⟩, List.mem_of_getElem? (i := 10) (by decide +kernel), List.mem_of_getElem? (i := 542) (by decide +kernel), List.mem_of_getElem? (i := 543) (by decide +kernel)⟩
theorem lw_p27 : lw_okq (⟨"StuckHands", "countOfReader", "(I)I"⟩, 6) := ⟨⟨by decide +kernel, by decide +kernel⟩, List.mem_of_getElem? (i := 10) (by decide +kernel), List.mem_of_getElem? (i := 550) (by decide +kernel), List.mem_of_getElem? (i := 551) (by decide +kernel)⟩
theorem lw_p28 : lw_okq (⟨"StuckHandsModel", "push", "(I)V"⟩, 31) := ⟨⟨by decide +kernel, by decide +kernel⟩, List.mem_of_getElem? (i := 554) (by decide +kernel), List.mem_of_getElem? (i := 659) (by decide +kernel), List.mem_of_getElem? (i := 660) (by decide +kernel)⟩
theorem lw_p29 : lw_okq (⟨"StuckHandsModel", "here", "()I"⟩, 31) := ⟨⟨by decide +kernel, by decide +kernel⟩, List.mem_of_getElem? (i := 554) (by decide +kernel), List.mem_of_getElem? (i := 667) (by decide +kernel), List.mem_of_getElem? (i := 668) (by decide +kernel)⟩
theorem lw_p30 : lw_okq (⟨"StuckHandsModel", "number", "(II)I"⟩, 31) := ⟨⟨by decide +kernel, by decide +kernel⟩, List.mem_of_getElem? (i := 554) (by decide +kernel), List.mem_of_getElem? (i := 671) (by decide +kernel), List.mem_of_getElem? (i := 672) (by decide +kernel)⟩
theorem lw_p31 : lw_okq (⟨"StuckHandsModel", "seesDigit", "()Z"⟩, 31) := ⟨⟨by decide +kernel, by decide +kernel⟩, List.mem_of_getElem? (i := 554) (by decide +kernel), List.mem_of_getElem? (i := 675) (by decide +kernel), List.mem_of_getElem? (i := 676) (by decide +kernel)⟩
def lw_privs_2 : List (MethodName × Nat) := [(⟨"StuckHands$LockOrder", "keepRing", "(II)V"⟩, 4), (⟨"StuckHands$LockOrder", "lowestBehind", "(II)I"⟩, 4), (⟨"StuckHands", "pictureAt", "(I)LStuckHands$Picture;"⟩, 6), (⟨"StuckHands", "rowAt", "(II)LStuckHands$Row;"⟩, 6), (⟨"StuckHands$Picture", "sizeOfRingFrom", "(I)I"⟩, 11), (⟨"StuckHands$Picture", "walkFrom", "(II)I"⟩, 11), (⟨"StuckHands", "isStuck", "(I)Z"⟩, 6), (⟨"StuckHands$Row", "hasCallsOf", "(LStuckHands$Row;)Z"⟩, 7), (⟨"StuckHands", "workBetween", "(LStuckHands$Picture;LStuckHands$Picture;II)I"⟩, 6), (⟨"StuckHands$Picture", "neighboursOf", "(II)I"⟩, 11), (⟨"StuckHands", "countAhead", "(I)I"⟩, 6), (⟨"StuckHands", "countOfReader", "(I)I"⟩, 6), (⟨"StuckHandsModel", "push", "(I)V"⟩, 31), (⟨"StuckHandsModel", "here", "()I"⟩, 31), (⟨"StuckHandsModel", "number", "(II)I"⟩, 31), (⟨"StuckHandsModel", "seesDigit", "()Z"⟩, 31)]
theorem lw_r2 : ∀ q ∈ lw_privs_2, lw_okq q := List.forall_mem_cons.mpr ⟨lw_p16, List.forall_mem_cons.mpr ⟨lw_p17, List.forall_mem_cons.mpr ⟨lw_p18, List.forall_mem_cons.mpr ⟨lw_p19, List.forall_mem_cons.mpr ⟨lw_p20, List.forall_mem_cons.mpr ⟨lw_p21, List.forall_mem_cons.mpr ⟨lw_p22, List.forall_mem_cons.mpr ⟨lw_p23, List.forall_mem_cons.mpr ⟨lw_p24, List.forall_mem_cons.mpr ⟨lw_p25, List.forall_mem_cons.mpr ⟨lw_p26, List.forall_mem_cons.mpr ⟨lw_p27, List.forall_mem_cons.mpr ⟨lw_p28, List.forall_mem_cons.mpr ⟨lw_p29, List.forall_mem_cons.mpr ⟨lw_p30, List.forall_mem_cons.mpr ⟨lw_p31, fun _ h => absurd h List.not_mem_nil⟩⟩⟩⟩⟩⟩⟩⟩⟩⟩⟩⟩⟩⟩⟩⟩
theorem lw_p32 : lw_okq (⟨"StuckHandsModel", "tears", "(I)V"⟩, 31) := ⟨⟨by decide +kernel, by decide +kernel⟩, List.mem_of_getElem? (i := 554) (by decide +kernel), List.mem_of_getElem? (i := 682) (by decide +kernel), List.mem_of_getElem? (i := 683) (by decide +kernel)⟩
theorem lw_p33 : lw_okq (⟨"StuckHandsModel", "readRow", "(I)V"⟩, 31) := ⟨⟨by decide +kernel, by decide +kernel⟩, List.mem_of_getElem? (i := 554) (by decide +kernel), List.mem_of_getElem? (i := 686) (by decide +kernel), List.mem_of_getElem? (i := 687) (by decide +kernel)⟩
theorem lw_p34 : lw_okq (⟨"StuckHandsModel", "readLocks", "(I)V"⟩, 31) := ⟨⟨by decide +kernel, by decide +kernel⟩, List.mem_of_getElem? (i := 554) (by decide +kernel), List.mem_of_getElem? (i := 693) (by decide +kernel), List.mem_of_getElem? (i := 694) (by decide +kernel)⟩
theorem lw_p35 : lw_okq (⟨"StuckHandsModel", "heldBy", "(I)I"⟩, 31) := ⟨⟨by decide +kernel, by decide +kernel⟩, List.mem_of_getElem? (i := 554) (by decide +kernel), List.mem_of_getElem? (i := 697) (by decide +kernel), List.mem_of_getElem? (i := 698) (by decide +kernel)⟩
theorem lw_p36 : lw_okq (⟨"StuckHandsModel", "readCalls", "()V"⟩, 31) := ⟨⟨by decide +kernel, by decide +kernel⟩, List.mem_of_getElem? (i := 554) (by decide +kernel), List.mem_of_getElem? (i := 701) (by decide +kernel), List.mem_of_getElem? (i := 702) (by decide +kernel)⟩
theorem lw_p37 : lw_okq (⟨"StuckHandsModel", "stands", "(I)V"⟩, 31) := ⟨⟨by decide +kernel, by decide +kernel⟩, List.mem_of_getElem? (i := 554) (by decide +kernel), List.mem_of_getElem? (i := 705) (by decide +kernel), List.mem_of_getElem? (i := 706) (by decide +kernel)⟩
theorem lw_p38 : lw_okq (⟨"StuckHandsModel", "isPicture", "(I)Z"⟩, 31) := ⟨⟨by decide +kernel, by decide +kernel⟩, List.mem_of_getElem? (i := 554) (by decide +kernel), List.mem_of_getElem? (i := 713) (by decide +kernel), List.mem_of_getElem? (i := 714) (by decide +kernel)⟩
theorem lw_p39 : lw_okq (⟨"StuckHandsModel", "isThere", "(II)Z"⟩, 31) := ⟨⟨by decide +kernel, by decide +kernel⟩, List.mem_of_getElem? (i := 554) (by decide +kernel), List.mem_of_getElem? (i := 721) (by decide +kernel), List.mem_of_getElem? (i := 722) (by decide +kernel)⟩
theorem lw_p40 : lw_okq (⟨"StuckHandsModel", "holderOf", "(II)I"⟩, 31) := ⟨⟨by decide +kernel, by decide +kernel⟩, List.mem_of_getElem? (i := 554) (by decide +kernel), List.mem_of_getElem? (i := 729) (by decide +kernel), List.mem_of_getElem? (i := 730) (by decide +kernel)⟩
theorem lw_p41 : lw_okq (⟨"StuckHandsModel", "isLowest", "(II)Z"⟩, 31) := ⟨⟨by decide +kernel, by decide +kernel⟩, List.mem_of_getElem? (i := 554) (by decide +kernel), List.mem_of_getElem? (i := 737) (by decide +kernel), List.mem_of_getElem? (i := 738) (by decide +kernel)⟩
theorem lw_p42 : lw_okq (⟨"StuckHandsModel", "back", "(II)I"⟩, 31) := ⟨⟨by decide +kernel, by decide +kernel⟩, List.mem_of_getElem? (i := 554) (by decide +kernel), List.mem_of_getElem? (i := 741) (by decide +kernel), List.mem_of_getElem? (i := 742) (by decide +kernel)⟩
theorem lw_p43 : lw_okq (⟨"StuckHandsModel", "next", "(II)I"⟩, 31) := ⟨⟨by decide +kernel, by decide +kernel⟩, List.mem_of_getElem? (i := 554) (by decide +kernel), List.mem_of_getElem? (i := 745) (by decide +kernel), List.mem_of_getElem? (i := 746) (by decide +kernel)⟩
theorem lw_p44 : lw_okq (⟨"StuckHandsModel", "after", "(III)I"⟩, 31) := ⟨⟨by decide +kernel, by decide +kernel⟩, List.mem_of_getElem? (i := 554) (by decide +kernel), List.mem_of_getElem? (i := 753) (by decide +kernel), List.mem_of_getElem? (i := 754) (by decide +kernel)⟩
theorem lw_p45 : lw_okq (⟨"StuckHandsModel", "comes", "(III)Z"⟩, 31) := ⟨⟨by decide +kernel, by decide +kernel⟩, List.mem_of_getElem? (i := 554) (by decide +kernel), List.mem_of_getElem? (i := 765) (by decide +kernel), List.mem_of_getElem? (i := 766) (by decide +kernel)⟩
theorem lw_p46 : lw_okq (⟨"StuckHandsModel", "weightOf", "(II)I"⟩, 31) := ⟨⟨by decide +kernel, by decide +kernel⟩, List.mem_of_getElem? (i := 554) (by decide +kernel), List.mem_of_getElem? (i := 773) (by decide +kernel), List.mem_of_getElem? (i := 774) (by decide +kernel)⟩
theorem lw_p47 : lw_okq (⟨"StuckHandsModel", "isStuck", "(I)Z"⟩, 31) := ⟨⟨by decide +kernel, by decide +kernel⟩, List.mem_of_getElem? (i := 554) (by decide +kernel), List.mem_of_getElem? (i := 785) (by decide +kernel), List.mem_of_getElem? (i := 786) (by decide +kernel)⟩
def lw_privs_3 : List (MethodName × Nat) := [(⟨"StuckHandsModel", "tears", "(I)V"⟩, 31), (⟨"StuckHandsModel", "readRow", "(I)V"⟩, 31), (⟨"StuckHandsModel", "readLocks", "(I)V"⟩, 31), (⟨"StuckHandsModel", "heldBy", "(I)I"⟩, 31), (⟨"StuckHandsModel", "readCalls", "()V"⟩, 31), (⟨"StuckHandsModel", "stands", "(I)V"⟩, 31), (⟨"StuckHandsModel", "isPicture", "(I)Z"⟩, 31), (⟨"StuckHandsModel", "isThere", "(II)Z"⟩, 31), (⟨"StuckHandsModel", "holderOf", "(II)I"⟩, 31), (⟨"StuckHandsModel", "isLowest", "(II)Z"⟩, 31), (⟨"StuckHandsModel", "back", "(II)I"⟩, 31), (⟨"StuckHandsModel", "next", "(II)I"⟩, 31), (⟨"StuckHandsModel", "after", "(III)I"⟩, 31), (⟨"StuckHandsModel", "comes", "(III)Z"⟩, 31), (⟨"StuckHandsModel", "weightOf", "(II)I"⟩, 31), (⟨"StuckHandsModel", "isStuck", "(I)Z"⟩, 31)]
theorem lw_r3 : ∀ q ∈ lw_privs_3, lw_okq q := List.forall_mem_cons.mpr ⟨lw_p32, List.forall_mem_cons.mpr ⟨lw_p33, List.forall_mem_cons.mpr ⟨lw_p34, List.forall_mem_cons.mpr ⟨lw_p35, List.forall_mem_cons.mpr ⟨lw_p36, List.forall_mem_cons.mpr ⟨lw_p37, List.forall_mem_cons.mpr ⟨lw_p38, List.forall_mem_cons.mpr ⟨lw_p39, List.forall_mem_cons.mpr ⟨lw_p40, List.forall_mem_cons.mpr ⟨lw_p41, List.forall_mem_cons.mpr ⟨lw_p42, List.forall_mem_cons.mpr ⟨lw_p43, List.forall_mem_cons.mpr ⟨lw_p44, List.forall_mem_cons.mpr ⟨lw_p45, List.forall_mem_cons.mpr ⟨lw_p46, List.forall_mem_cons.mpr ⟨lw_p47, fun _ h => absurd h List.not_mem_nil⟩⟩⟩⟩⟩⟩⟩⟩⟩⟩⟩⟩⟩⟩⟩⟩
theorem lw_p48 : lw_okq (⟨"StuckHandsModel", "areAlike", "(II)Z"⟩, 31) := ⟨⟨by decide +kernel, by decide +kernel⟩, List.mem_of_getElem? (i := 554) (by decide +kernel), List.mem_of_getElem? (i := 789) (by decide +kernel), List.mem_of_getElem? (i := 790) (by decide +kernel)⟩
theorem lw_p49 : lw_okq (⟨"StuckHandsModel", "breaks", "()V"⟩, 31) := ⟨⟨by decide +kernel, by decide +kernel⟩, List.mem_of_getElem? (i := 554) (by decide +kernel), List.mem_of_getElem? (i := 797) (by decide +kernel), List.mem_of_getElem? (i := 798) (by decide +kernel)⟩
theorem lw_p50 : lw_okq (⟨"StuckHandsModel", "aheads", "()V"⟩, 31) := ⟨⟨by decide +kernel, by decide +kernel⟩, List.mem_of_getElem? (i := 554) (by decide +kernel), List.mem_of_getElem? (i := 801) (by decide +kernel), List.mem_of_getElem? (i := 802) (by decide +kernel)⟩
theorem lw_p51 : lw_okq (⟨"StuckHandsModel", "measures", "(I)I"⟩, 31) := ⟨⟨by decide +kernel, by decide +kernel⟩, List.mem_of_getElem? (i := 554) (by decide +kernel), List.mem_of_getElem? (i := 805) (by decide +kernel), List.mem_of_getElem? (i := 806) (by decide +kernel)⟩
theorem lw_p52 : lw_okq (⟨"StuckHandsModel", "distanceOf", "(II)I"⟩, 31) := ⟨⟨by decide +kernel, by decide +kernel⟩, List.mem_of_getElem? (i := 554) (by decide +kernel), List.mem_of_getElem? (i := 821) (by decide +kernel), List.mem_of_getElem? (i := 822) (by decide +kernel)⟩
theorem lw_p53 : lw_okq (⟨"StuckHandsModel", "hangs", "(II)V"⟩, 31) := ⟨⟨by decide +kernel, by decide +kernel⟩, List.mem_of_getElem? (i := 554) (by decide +kernel), List.mem_of_getElem? (i := 832) (by decide +kernel), List.mem_of_getElem? (i := 833) (by decide +kernel)⟩
def lw_privs_4 : List (MethodName × Nat) := [(⟨"StuckHandsModel", "areAlike", "(II)Z"⟩, 31), (⟨"StuckHandsModel", "breaks", "()V"⟩, 31), (⟨"StuckHandsModel", "aheads", "()V"⟩, 31), (⟨"StuckHandsModel", "measures", "(I)I"⟩, 31), (⟨"StuckHandsModel", "distanceOf", "(II)I"⟩, 31), (⟨"StuckHandsModel", "hangs", "(II)V"⟩, 31)]
theorem lw_r4 : ∀ q ∈ lw_privs_4, lw_okq q := List.forall_mem_cons.mpr ⟨lw_p48, List.forall_mem_cons.mpr ⟨lw_p49, List.forall_mem_cons.mpr ⟨lw_p50, List.forall_mem_cons.mpr ⟨lw_p51, List.forall_mem_cons.mpr ⟨lw_p52, List.forall_mem_cons.mpr ⟨lw_p53, fun _ h => absurd h List.not_mem_nil⟩⟩⟩⟩⟩⟩
def lw_privs : List (MethodName × Nat) := lw_privs_1 ++ (lw_privs_2 ++ (lw_privs_3 ++ (lw_privs_4)))
def lw_tbl : List Cond := k2_sels lw_privs ++ tables_1
theorem lw_privs_ok : ∀ q ∈ lw_privs, lw_okq q := by
  show ∀ q ∈ lw_privs_1 ++ (lw_privs_2 ++ (lw_privs_3 ++ (lw_privs_4))), lw_okq q
  exact List.forall_mem_append.mpr ⟨lw_r1, List.forall_mem_append.mpr ⟨lw_r2, List.forall_mem_append.mpr ⟨lw_r3, lw_r4⟩⟩⟩
/-! ===== BEGIN words of one list among another's, by their places ===== -/
theorem goodIn_r {big : List Cond} (ws : List Cond) (ps : List Nat) (hp : ws = ps.filterMap (fun i => big[i]?)) (h : ws.all goodWord = true) : GoodIn big ws := by
  intro w hw
  have h1 := List.all_eq_true.mp h w hw
  rw [hp] at hw
  obtain ⟨i, -, hi⟩ := List.mem_filterMap.mp hw
  have hm : w ∈ big := by first | exact List.mem_of_getElem? hi | exact List.getElem?_mem hi
  exact ⟨hm, good_of_word h1⟩
theorem goodIn_app {big a b : List Cond} (ha : GoodIn big a) (hb : GoodIn big b) : GoodIn big (a ++ b) := fun w h => (List.mem_append.mp h).elim (ha w) (hb w)
theorem goodIn_ca {big a b : List Cond} {c : Cond} (ha : GoodIn big (c :: a)) (hb : GoodIn big b) : GoodIn big (c :: (a ++ b)) := fun w h => (List.mem_cons.mp h).elim (fun e => ha w (List.mem_cons.mpr (Or.inl e))) (fun h => (List.mem_append.mp h).elim (fun h => ha w (List.mem_cons.mpr (Or.inr h))) (hb w))
theorem goodIn_sub {big ws : List Cond} (hm : ∀ w ∈ ws, w ∈ big) (h : ws.all goodWord = true) : GoodIn big ws := fun w hw => ⟨hm w hw, good_of_word (List.all_eq_true.mp h w hw)⟩
/-! ===== END ===== -/

/-! ===== BEGIN printed: names, fields, word lists, decode rows ===== -/
def RX0 : String := "StuckHands$LockOrder"
def TX0 : u_T := fun k => match k with
  | 0 => ("StuckHands$LockOrder", "behind", "[I", true)
  | 1 => ("StuckHands$LockOrder", "wayBack", "[I", true)
  | 2 => ("StuckHands$LockOrder", "ring", "[I", true)
  | _ => ("StuckHands$LockOrder", "ringSize", "I", false)
def tyX0 : Nat → FieldType := fun k => match k with
  | 0 => .array .int
  | 1 => .array .int
  | 2 => .array .int
  | _ => .int
abbrev wsX00 : List Cond := u_ws RX0 TX0 4
theorem nmX0 : ∀ a, a < 4 → ∀ b, b < 4 → a ≠ b → (TX0 a).2.1 ≠ (TX0 b).2.1 := by decide +kernel
theorem tyX0_ok : ∀ k, k < 4 → parseFieldDescriptor (TX0 k).2.2.1 = some (tyX0 k) := by decide +kernel
abbrev cX0_init : ByteArray := prog_2_method_1_code
def yX0_init : MethodName := ⟨RX0, "<init>", "()V"⟩
abbrev cX0_learn : ByteArray := prog_2_method_2_code
def yX0_learn : MethodName := ⟨RX0, "learn", "(LStuckHands$Picture;)V"⟩
abbrev cX0_lockOfRing : ByteArray := prog_2_method_3_code
def yX0_lockOfRing : MethodName := ⟨RX0, "lockOfRing", "(I)I"⟩
abbrev cX0_learnRow : ByteArray := prog_2_method_4_code
def yX0_learnRow : MethodName := ⟨RX0, "learnRow", "(LStuckHands$Row;)V"⟩
abbrev cX0_findRing : ByteArray := prog_2_method_5_code
def yX0_findRing : MethodName := ⟨RX0, "findRing", "()V"⟩
abbrev cX0_measureWaysBack : ByteArray := prog_2_method_6_code
def yX0_measureWaysBack : MethodName := ⟨RX0, "measureWaysBack", "(I)V"⟩
abbrev cX0_stepBack : ByteArray := prog_2_method_7_code
def yX0_stepBack : MethodName := ⟨RX0, "stepBack", "(III)I"⟩
abbrev cX0_sizeOfRingFrom : ByteArray := prog_2_method_8_code
def yX0_sizeOfRingFrom : MethodName := ⟨RX0, "sizeOfRingFrom", "(I)I"⟩
abbrev cX0_keepRing : ByteArray := prog_2_method_9_code
def yX0_keepRing : MethodName := ⟨RX0, "keepRing", "(II)V"⟩
abbrev cX0_lowestBehind : ByteArray := prog_2_method_10_code
def yX0_lowestBehind : MethodName := ⟨RX0, "lowestBehind", "(II)I"⟩
def RX1 : String := "StuckHands$Picture"
def TX1 : u_T := fun k => match k with
  | 0 => ("StuckHands$Picture", "tick", "I", true)
  | 1 => ("StuckHands$Picture", "rows", "[LStuckHands$Row;", true)
  | 2 => ("StuckHands$Picture", "holders", "[I", true)
  | 3 => ("StuckHands$Picture", "chains", "[I", true)
  | 4 => ("StuckHands$Picture", "chainLocks", "[I", true)
  | 5 => ("StuckHands$Picture", "distances", "[B", true)
  | 6 => ("StuckHands$Picture", "costs", "[I", true)
  | 7 => ("StuckHands$Picture", "tornAt", "I", false)
  | 8 => ("StuckHands$Picture", "threadCount", "I", false)
  | 9 => ("StuckHands$Picture", "waitingCount", "I", false)
  | _ => ("StuckHands$Picture", "heldCount", "I", false)
def tyX1 : Nat → FieldType := fun k => match k with
  | 0 => .int
  | 1 => .array (.object "StuckHands$Row")
  | 2 => .array .int
  | 3 => .array .int
  | 4 => .array .int
  | 5 => .array .byte
  | 6 => .array .int
  | 7 => .int
  | 8 => .int
  | 9 => .int
  | _ => .int
abbrev wsX10 : List Cond := u_ws RX1 TX1 11
theorem nmX1 : ∀ a, a < 11 → ∀ b, b < 11 → a ≠ b → (TX1 a).2.1 ≠ (TX1 b).2.1 := by decide +kernel
theorem tyX1_ok : ∀ k, k < 11 → parseFieldDescriptor (TX1 k).2.2.1 = some (tyX1 k) := by decide +kernel
abbrev cX1_init : ByteArray := prog_3_method_1_code
def yX1_init : MethodName := ⟨RX1, "<init>", "(I)V"⟩
abbrev cX1_keep : ByteArray := prog_3_method_2_code
def yX1_keep : MethodName := ⟨RX1, "keep", "(LStuckHands$Row;)V"⟩
abbrev cX1_measureFrom : ByteArray := prog_3_method_3_code
def yX1_measureFrom : MethodName := ⟨RX1, "measureFrom", "(LStuckHands$Row;)V"⟩
abbrev cX1_rowOf : ByteArray := prog_3_method_4_code
def yX1_rowOf : MethodName := ⟨RX1, "rowOf", "(I)LStuckHands$Row;"⟩
abbrev cX1_holderOf : ByteArray := prog_3_method_5_code
def yX1_holderOf : MethodName := ⟨RX1, "holderOf", "(I)I"⟩
abbrev cX1_awaitedBy : ByteArray := prog_3_method_6_code
def yX1_awaitedBy : MethodName := ⟨RX1, "awaitedBy", "(I)I"⟩
abbrev cX1_countRings : ByteArray := prog_3_method_7_code
def yX1_countRings : MethodName := ⟨RX1, "countRings", "()I"⟩
abbrev cX1_sizeOfRingFrom : ByteArray := prog_3_method_8_code
def yX1_sizeOfRingFrom : MethodName := ⟨RX1, "sizeOfRingFrom", "(I)I"⟩
abbrev cX1_threadOfRing : ByteArray := prog_3_method_9_code
def yX1_threadOfRing : MethodName := ⟨RX1, "threadOfRing", "(II)I"⟩
abbrev cX1_walkFrom : ByteArray := prog_3_method_10_code
def yX1_walkFrom : MethodName := ⟨RX1, "walkFrom", "(II)I"⟩
abbrev cX1_footOf : ByteArray := prog_3_method_11_code
def yX1_footOf : MethodName := ⟨RX1, "footOf", "(I)I"⟩
abbrev cX1_followChains : ByteArray := prog_3_method_12_code
def yX1_followChains : MethodName := ⟨RX1, "followChains", "()V"⟩
abbrev cX1_followChainOf : ByteArray := prog_3_method_13_code
def yX1_followChainOf : MethodName := ⟨RX1, "followChainOf", "(I)V"⟩
abbrev cX1_countThroughThread : ByteArray := prog_3_method_14_code
def yX1_countThroughThread : MethodName := ⟨RX1, "countThroughThread", "(I)I"⟩
abbrev cX1_countThroughLock : ByteArray := prog_3_method_15_code
def yX1_countThroughLock : MethodName := ⟨RX1, "countThroughLock", "(I)I"⟩
abbrev cX1_guiltyLock : ByteArray := prog_3_method_16_code
def yX1_guiltyLock : MethodName := ⟨RX1, "guiltyLock", "()I"⟩
abbrev cX1_distanceOf : ByteArray := prog_3_method_17_code
def yX1_distanceOf : MethodName := ⟨RX1, "distanceOf", "(II)I"⟩
abbrev cX1_countHeaps : ByteArray := prog_3_method_18_code
def yX1_countHeaps : MethodName := ⟨RX1, "countHeaps", "(I)I"⟩
abbrev cX1_heapOf : ByteArray := prog_3_method_19_code
def yX1_heapOf : MethodName := ⟨RX1, "heapOf", "(II)I"⟩
abbrev cX1_neighboursOf : ByteArray := prog_3_method_20_code
def yX1_neighboursOf : MethodName := ⟨RX1, "neighboursOf", "(II)I"⟩
def RX2 : String := "StuckHands$Row"
def TX2 : u_T := fun k => match k with
  | 0 => ("StuckHands$Row", "calls", "[B", true)
  | 1 => ("StuckHands$Row", "thread", "I", false)
  | 2 => ("StuckHands$Row", "state", "I", false)
  | 3 => ("StuckHands$Row", "counter", "I", false)
  | 4 => ("StuckHands$Row", "held", "I", false)
  | 5 => ("StuckHands$Row", "waitsAt", "I", false)
  | _ => ("StuckHands$Row", "callCount", "I", false)
def tyX2 : Nat → FieldType := fun k => match k with
  | 0 => .array .byte
  | 1 => .int
  | 2 => .int
  | 3 => .int
  | 4 => .int
  | 5 => .int
  | _ => .int
abbrev wsX20 : List Cond := u_ws RX2 TX2 7
theorem nmX2 : ∀ a, a < 7 → ∀ b, b < 7 → a ≠ b → (TX2 a).2.1 ≠ (TX2 b).2.1 := by decide +kernel
theorem tyX2_ok : ∀ k, k < 7 → parseFieldDescriptor (TX2 k).2.2.1 = some (tyX2 k) := by decide +kernel
abbrev cX2_init : ByteArray := prog_4_method_1_code
def yX2_init : MethodName := ⟨RX2, "<init>", "()V"⟩
abbrev cX2_addCall : ByteArray := prog_4_method_2_code
def yX2_addCall : MethodName := ⟨RX2, "addCall", "(I)V"⟩
abbrev cX2_callAt : ByteArray := prog_4_method_3_code
def yX2_callAt : MethodName := ⟨RX2, "callAt", "(I)I"⟩
abbrev cX2_holds : ByteArray := prog_4_method_4_code
def yX2_holds : MethodName := ⟨RX2, "holds", "(I)Z"⟩
abbrev cX2_isWaiting : ByteArray := prog_4_method_5_code
def yX2_isWaiting : MethodName := ⟨RX2, "isWaiting", "()Z"⟩
abbrev cX2_waitsAtBit : ByteArray := prog_4_method_6_code
def yX2_waitsAtBit : MethodName := ⟨RX2, "waitsAtBit", "()I"⟩
abbrev cX2_isLike : ByteArray := prog_4_method_7_code
def yX2_isLike : MethodName := ⟨RX2, "isLike", "(LStuckHands$Row;)Z"⟩
abbrev cX2_hasCallsOf : ByteArray := prog_4_method_8_code
def yX2_hasCallsOf : MethodName := ⟨RX2, "hasCallsOf", "(LStuckHands$Row;)Z"⟩
abbrev cX2_distanceTo : ByteArray := prog_4_method_9_code
def yX2_distanceTo : MethodName := ⟨RX2, "distanceTo", "(LStuckHands$Row;[I)I"⟩
def RX3 : String := "StuckHands$RowReader"
def TX3 : u_T := fun k => match k with
  | 0 => ("StuckHands$RowReader", "tape", "LStuckHands$Tape;", true)
  | _ => ("StuckHands$RowReader", "picture", "LStuckHands$Picture;", true)
def tyX3 : Nat → FieldType := fun k => match k with
  | 0 => .object "StuckHands$Tape"
  | _ => .object "StuckHands$Picture"
abbrev wsX30 : List Cond := u_ws RX3 TX3 2
theorem nmX3 : ∀ a, a < 2 → ∀ b, b < 2 → a ≠ b → (TX3 a).2.1 ≠ (TX3 b).2.1 := by decide +kernel
theorem tyX3_ok : ∀ k, k < 2 → parseFieldDescriptor (TX3 k).2.2.1 = some (tyX3 k) := by decide +kernel
abbrev cX3_init : ByteArray := prog_5_method_1_code
def yX3_init : MethodName := ⟨RX3, "<init>", "(LStuckHands$Tape;LStuckHands$Picture;)V"⟩
abbrev cX3_readRows : ByteArray := prog_5_method_2_code
def yX3_readRows : MethodName := ⟨RX3, "readRows", "()V"⟩
abbrev cX3_readRow : ByteArray := prog_5_method_3_code
def yX3_readRow : MethodName := ⟨RX3, "readRow", "(LStuckHands$Row;)Z"⟩
abbrev cX3_readThread : ByteArray := prog_5_method_4_code
def yX3_readThread : MethodName := ⟨RX3, "readThread", "(LStuckHands$Row;)Z"⟩
abbrev cX3_readState : ByteArray := prog_5_method_5_code
def yX3_readState : MethodName := ⟨RX3, "readState", "(LStuckHands$Row;)Z"⟩
abbrev cX3_readCounter : ByteArray := prog_5_method_6_code
def yX3_readCounter : MethodName := ⟨RX3, "readCounter", "(LStuckHands$Row;)Z"⟩
abbrev cX3_readHeld : ByteArray := prog_5_method_7_code
def yX3_readHeld : MethodName := ⟨RX3, "readHeld", "(LStuckHands$Row;)Z"⟩
abbrev cX3_readHeldLock : ByteArray := prog_5_method_8_code
def yX3_readHeldLock : MethodName := ⟨RX3, "readHeldLock", "(LStuckHands$Row;)Z"⟩
abbrev cX3_readWait : ByteArray := prog_5_method_9_code
def yX3_readWait : MethodName := ⟨RX3, "readWait", "(LStuckHands$Row;)Z"⟩
abbrev cX3_readCalls : ByteArray := prog_5_method_10_code
def yX3_readCalls : MethodName := ⟨RX3, "readCalls", "(LStuckHands$Row;)Z"⟩
def RX4 : String := "StuckHands$Tape"
def TX4 : u_T := fun k => match k with
  | 0 => ("StuckHands$Tape", "bytes", "[B", true)
  | 1 => ("StuckHands$Tape", "length", "I", false)
  | 2 => ("StuckHands$Tape", "textLength", "I", false)
  | _ => ("StuckHands$Tape", "at", "I", false)
def tyX4 : Nat → FieldType := fun k => match k with
  | 0 => .array .byte
  | 1 => .int
  | 2 => .int
  | _ => .int
abbrev wsX40 : List Cond := u_ws RX4 TX4 4
theorem nmX4 : ∀ a, a < 4 → ∀ b, b < 4 → a ≠ b → (TX4 a).2.1 ≠ (TX4 b).2.1 := by decide +kernel
theorem tyX4_ok : ∀ k, k < 4 → parseFieldDescriptor (TX4 k).2.2.1 = some (tyX4 k) := by decide +kernel
abbrev cX4_init : ByteArray := prog_6_method_1_code
def yX4_init : MethodName := ⟨RX4, "<init>", "()V"⟩
abbrev cX4_append : ByteArray := prog_6_method_2_code
def yX4_append : MethodName := ⟨RX4, "append", "(I)V"⟩
abbrev cX4_openText : ByteArray := prog_6_method_3_code
def yX4_openText : MethodName := ⟨RX4, "openText", "(I)V"⟩
abbrev cX4_next : ByteArray := prog_6_method_4_code
def yX4_next : MethodName := ⟨RX4, "next", "()I"⟩
abbrev cX4_isAtEndOfPart : ByteArray := prog_6_method_5_code
def yX4_isAtEndOfPart : MethodName := ⟨RX4, "isAtEndOfPart", "()Z"⟩
abbrev cX4_take : ByteArray := prog_6_method_6_code
def yX4_take : MethodName := ⟨RX4, "take", "(C)Z"⟩
abbrev cX4_takeNumber : ByteArray := prog_6_method_7_code
def yX4_takeNumber : MethodName := ⟨RX4, "takeNumber", "(II)I"⟩
abbrev cX4_tearAt : ByteArray := prog_6_method_8_code
def yX4_tearAt : MethodName := ⟨RX4, "tearAt", "(I)I"⟩
abbrev cX4_readHead : ByteArray := prog_6_method_9_code
def yX4_readHead : MethodName := ⟨RX4, "readHead", "()I"⟩
def RX5 : String := "StuckHands"
def TX5 : u_T := fun k => match k with
  | 0 => ("StuckHands", "tape", "LStuckHands$Tape;", true)
  | 1 => ("StuckHands", "pictures", "[LStuckHands$Picture;", true)
  | 2 => ("StuckHands", "lockOrder", "LStuckHands$LockOrder;", true)
  | 3 => ("StuckHands", "pictureCount", "I", false)
  | 4 => ("StuckHands", "counterRound", "I", false)
  | _ => ("StuckHands", "mostInATick", "I", false)
def tyX5 : Nat → FieldType := fun k => match k with
  | 0 => .object "StuckHands$Tape"
  | 1 => .array (.object "StuckHands$Picture")
  | 2 => .object "StuckHands$LockOrder"
  | 3 => .int
  | 4 => .int
  | _ => .int
abbrev wsX50 : List Cond := u_ws RX5 TX5 6
theorem nmX5 : ∀ a, a < 6 → ∀ b, b < 6 → a ≠ b → (TX5 a).2.1 ≠ (TX5 b).2.1 := by decide +kernel
theorem tyX5_ok : ∀ k, k < 6 → parseFieldDescriptor (TX5 k).2.2.1 = some (tyX5 k) := by decide +kernel
abbrev cX5_init : ByteArray := prog_1_method_1_code
def yX5_init : MethodName := ⟨RX5, "<init>", "()V"⟩
abbrev cX5_feed : ByteArray := prog_1_method_2_code
def yX5_feed : MethodName := ⟨RX5, "feed", "(IIIII)I"⟩
abbrev cX5_picture : ByteArray := prog_1_method_3_code
def yX5_picture : MethodName := ⟨RX5, "picture", "(I)I"⟩
abbrev cX5_torn : ByteArray := prog_1_method_4_code
def yX5_torn : MethodName := ⟨RX5, "torn", "(I)I"⟩
abbrev cX5_look : ByteArray := prog_1_method_5_code
def yX5_look : MethodName := ⟨RX5, "look", "(III)I"⟩
abbrev cX5_holder : ByteArray := prog_1_method_6_code
def yX5_holder : MethodName := ⟨RX5, "holder", "(II)I"⟩
abbrev cX5_rings : ByteArray := prog_1_method_7_code
def yX5_rings : MethodName := ⟨RX5, "rings", "(I)I"⟩
abbrev cX5_ring : ByteArray := prog_1_method_8_code
def yX5_ring : MethodName := ⟨RX5, "ring", "(III)I"⟩
abbrev cX5_foot : ByteArray := prog_1_method_9_code
def yX5_foot : MethodName := ⟨RX5, "foot", "(II)I"⟩
abbrev cX5_through : ByteArray := prog_1_method_10_code
def yX5_through : MethodName := ⟨RX5, "through", "(II)I"⟩
abbrev cX5_weight : ByteArray := prog_1_method_11_code
def yX5_weight : MethodName := ⟨RX5, "weight", "(II)I"⟩
abbrev cX5_guilty : ByteArray := prog_1_method_12_code
def yX5_guilty : MethodName := ⟨RX5, "guilty", "(I)I"⟩
abbrev cX5_stuck : ByteArray := prog_1_method_13_code
def yX5_stuck : MethodName := ⟨RX5, "stuck", "(I)I"⟩
abbrev cX5_broken : ByteArray := prog_1_method_14_code
def yX5_broken : MethodName := ⟨RX5, "broken", "(I)I"⟩
abbrev cX5_meter : ByteArray := prog_1_method_15_code
def yX5_meter : MethodName := ⟨RX5, "meter", "(II)Z"⟩
abbrev cX5_work : ByteArray := prog_1_method_16_code
def yX5_work : MethodName := ⟨RX5, "work", "(IIII)I"⟩
abbrev cX5_distance : ByteArray := prog_1_method_17_code
def yX5_distance : MethodName := ⟨RX5, "distance", "(III)I"⟩
abbrev cX5_heaps : ByteArray := prog_1_method_18_code
def yX5_heaps : MethodName := ⟨RX5, "heaps", "(II)I"⟩
abbrev cX5_heap : ByteArray := prog_1_method_19_code
def yX5_heap : MethodName := ⟨RX5, "heap", "(III)I"⟩
abbrev cX5_order : ByteArray := prog_1_method_20_code
def yX5_order : MethodName := ⟨RX5, "order", "(I)I"⟩
abbrev cX5_count : ByteArray := prog_1_method_21_code
def yX5_count : MethodName := ⟨RX5, "count", "(II)I"⟩
abbrev cX5_workBetween : ByteArray := prog_1_method_22_code
def yX5_workBetween : MethodName := ⟨RX5, "workBetween", "(LStuckHands$Picture;LStuckHands$Picture;II)I"⟩
abbrev cX5_countOfReader : ByteArray := prog_1_method_23_code
def yX5_countOfReader : MethodName := ⟨RX5, "countOfReader", "(I)I"⟩
abbrev cX5_pictureAt : ByteArray := prog_1_method_24_code
def yX5_pictureAt : MethodName := ⟨RX5, "pictureAt", "(I)LStuckHands$Picture;"⟩
abbrev cX5_rowAt : ByteArray := prog_1_method_25_code
def yX5_rowAt : MethodName := ⟨RX5, "rowAt", "(II)LStuckHands$Row;"⟩
abbrev cX5_isTickTaken : ByteArray := prog_1_method_26_code
def yX5_isTickTaken : MethodName := ⟨RX5, "isTickTaken", "(I)Z"⟩
abbrev cX5_countAhead : ByteArray := prog_1_method_27_code
def yX5_countAhead : MethodName := ⟨RX5, "countAhead", "(I)I"⟩
abbrev cX5_isStuck : ByteArray := prog_1_method_28_code
def yX5_isStuck : MethodName := ⟨RX5, "isStuck", "(I)Z"⟩
abbrev cX5_isThread : ByteArray := prog_1_method_29_code
def yX5_isThread : MethodName := ⟨RX5, "isThread", "(I)Z"⟩
abbrev cX5_isLock : ByteArray := prog_1_method_30_code
def yX5_isLock : MethodName := ⟨RX5, "isLock", "(I)Z"⟩
abbrev cX5_isHeapWidth : ByteArray := prog_1_method_31_code
def yX5_isHeapWidth : MethodName := ⟨RX5, "isHeapWidth", "(I)Z"⟩
abbrev cX5_isDigit : ByteArray := prog_1_method_32_code
def yX5_isDigit : MethodName := ⟨RX5, "isDigit", "(I)Z"⟩
abbrev cX5_isLetter : ByteArray := prog_1_method_33_code
def yX5_isLetter : MethodName := ⟨RX5, "isLetter", "(I)Z"⟩
abbrev cX5_hasBit : ByteArray := prog_1_method_34_code
def yX5_hasBit : MethodName := ⟨RX5, "hasBit", "(II)Z"⟩
abbrev cX5_lowestOf : ByteArray := prog_1_method_35_code
def yX5_lowestOf : MethodName := ⟨RX5, "lowestOf", "(I)I"⟩
def RX6 : String := "StuckHandsModel"
def TX6 : u_T := fun k => match k with
  | 0 => ("StuckHandsModel", "tape", "[B", true)
  | 1 => ("StuckHandsModel", "taped", "I", false)
  | 2 => ("StuckHandsModel", "pictures", "I", false)
  | 3 => ("StuckHandsModel", "round", "I", false)
  | 4 => ("StuckHandsModel", "fast", "I", false)
  | 5 => ("StuckHandsModel", "tick", "[I", true)
  | 6 => ("StuckHandsModel", "torn", "[I", true)
  | 7 => ("StuckHandsModel", "is", "[Z", true)
  | 8 => ("StuckHandsModel", "state", "[I", true)
  | 9 => ("StuckHandsModel", "counter", "[I", true)
  | 10 => ("StuckHandsModel", "held", "[I", true)
  | 11 => ("StuckHandsModel", "waits", "[I", true)
  | 12 => ("StuckHandsModel", "many", "[I", true)
  | 13 => ("StuckHandsModel", "calls", "[B", true)
  | 14 => ("StuckHandsModel", "at", "I", false)
  | 15 => ("StuckHandsModel", "size", "I", false)
  | 16 => ("StuckHandsModel", "bad", "I", false)
  | 17 => ("StuckHandsModel", "first", "I", false)
  | 18 => ("StuckHandsModel", "rowThread", "I", false)
  | 19 => ("StuckHandsModel", "rowState", "I", false)
  | 20 => ("StuckHandsModel", "rowCounter", "I", false)
  | 21 => ("StuckHandsModel", "rowHeld", "I", false)
  | 22 => ("StuckHandsModel", "rowWaits", "I", false)
  | 23 => ("StuckHandsModel", "rowMany", "I", false)
  | 24 => ("StuckHandsModel", "rowCalls", "[B", true)
  | 25 => ("StuckHandsModel", "ahead", "[I", true)
  | 26 => ("StuckHandsModel", "far", "[I", true)
  | 27 => ("StuckHandsModel", "row", "[I", true)
  | 28 => ("StuckHandsModel", "rowLong", "I", false)
  | 29 => ("StuckHandsModel", "cost", "[I", true)
  | _ => ("StuckHandsModel", "lowest", "[I", true)
def tyX6 : Nat → FieldType := fun k => match k with
  | 0 => .array .byte
  | 1 => .int
  | 2 => .int
  | 3 => .int
  | 4 => .int
  | 5 => .array .int
  | 6 => .array .int
  | 7 => .array .boolean
  | 8 => .array .int
  | 9 => .array .int
  | 10 => .array .int
  | 11 => .array .int
  | 12 => .array .int
  | 13 => .array .byte
  | 14 => .int
  | 15 => .int
  | 16 => .int
  | 17 => .int
  | 18 => .int
  | 19 => .int
  | 20 => .int
  | 21 => .int
  | 22 => .int
  | 23 => .int
  | 24 => .array .byte
  | 25 => .array .int
  | 26 => .array .int
  | 27 => .array .int
  | 28 => .int
  | 29 => .array .int
  | _ => .array .int
abbrev wsX60 : List Cond := u_ws RX6 TX6 31
theorem nmX6 : ∀ a, a < 31 → ∀ b, b < 31 → a ≠ b → (TX6 a).2.1 ≠ (TX6 b).2.1 := by decide +kernel
theorem tyX6_ok : ∀ k, k < 31 → parseFieldDescriptor (TX6 k).2.2.1 = some (tyX6 k) := by decide +kernel
abbrev cX6_init : ByteArray := prog_8_method_1_code
def yX6_init : MethodName := ⟨RX6, "<init>", "()V"⟩
abbrev cX6_lies : ByteArray := prog_8_method_2_code
def yX6_lies : MethodName := ⟨RX6, "lies", "(III)Z"⟩
abbrev cX6_push : ByteArray := prog_8_method_3_code
def yX6_push : MethodName := ⟨RX6, "push", "(I)V"⟩
abbrev cX6_feed : ByteArray := prog_8_method_4_code
def yX6_feed : MethodName := ⟨RX6, "feed", "(IIIII)I"⟩
abbrev cX6_here : ByteArray := prog_8_method_5_code
def yX6_here : MethodName := ⟨RX6, "here", "()I"⟩
abbrev cX6_seesDigit : ByteArray := prog_8_method_6_code
def yX6_seesDigit : MethodName := ⟨RX6, "seesDigit", "()Z"⟩
abbrev cX6_tears : ByteArray := prog_8_method_7_code
def yX6_tears : MethodName := ⟨RX6, "tears", "(I)V"⟩
abbrev cX6_number : ByteArray := prog_8_method_8_code
def yX6_number : MethodName := ⟨RX6, "number", "(II)I"⟩
abbrev cX6_heldBy : ByteArray := prog_8_method_9_code
def yX6_heldBy : MethodName := ⟨RX6, "heldBy", "(I)I"⟩
abbrev cX6_readLocks : ByteArray := prog_8_method_10_code
def yX6_readLocks : MethodName := ⟨RX6, "readLocks", "(I)V"⟩
abbrev cX6_readCalls : ByteArray := prog_8_method_11_code
def yX6_readCalls : MethodName := ⟨RX6, "readCalls", "()V"⟩
abbrev cX6_stateOf : ByteArray := prog_8_method_12_code
def yX6_stateOf : MethodName := ⟨RX6, "stateOf", "(I)I"⟩
abbrev cX6_readRow : ByteArray := prog_8_method_13_code
def yX6_readRow : MethodName := ⟨RX6, "readRow", "(I)V"⟩
abbrev cX6_stands : ByteArray := prog_8_method_14_code
def yX6_stands : MethodName := ⟨RX6, "stands", "(I)V"⟩
abbrev cX6_picture : ByteArray := prog_8_method_15_code
def yX6_picture : MethodName := ⟨RX6, "picture", "(I)I"⟩
abbrev cX6_isPicture : ByteArray := prog_8_method_16_code
def yX6_isPicture : MethodName := ⟨RX6, "isPicture", "(I)Z"⟩
abbrev cX6_isThere : ByteArray := prog_8_method_17_code
def yX6_isThere : MethodName := ⟨RX6, "isThere", "(II)Z"⟩
abbrev cX6_torn : ByteArray := prog_8_method_18_code
def yX6_torn : MethodName := ⟨RX6, "torn", "(I)I"⟩
abbrev cX6_look : ByteArray := prog_8_method_19_code
def yX6_look : MethodName := ⟨RX6, "look", "(III)I"⟩
abbrev cX6_holderOf : ByteArray := prog_8_method_20_code
def yX6_holderOf : MethodName := ⟨RX6, "holderOf", "(II)I"⟩
abbrev cX6_holder : ByteArray := prog_8_method_21_code
def yX6_holder : MethodName := ⟨RX6, "holder", "(II)I"⟩
abbrev cX6_next : ByteArray := prog_8_method_22_code
def yX6_next : MethodName := ⟨RX6, "next", "(II)I"⟩
abbrev cX6_after : ByteArray := prog_8_method_23_code
def yX6_after : MethodName := ⟨RX6, "after", "(III)I"⟩
abbrev cX6_back : ByteArray := prog_8_method_24_code
def yX6_back : MethodName := ⟨RX6, "back", "(II)I"⟩
abbrev cX6_isLowest : ByteArray := prog_8_method_25_code
def yX6_isLowest : MethodName := ⟨RX6, "isLowest", "(II)Z"⟩
abbrev cX6_rings : ByteArray := prog_8_method_26_code
def yX6_rings : MethodName := ⟨RX6, "rings", "(I)I"⟩
abbrev cX6_ring : ByteArray := prog_8_method_27_code
def yX6_ring : MethodName := ⟨RX6, "ring", "(III)I"⟩
abbrev cX6_foot : ByteArray := prog_8_method_28_code
def yX6_foot : MethodName := ⟨RX6, "foot", "(II)I"⟩
abbrev cX6_comes : ByteArray := prog_8_method_29_code
def yX6_comes : MethodName := ⟨RX6, "comes", "(III)Z"⟩
abbrev cX6_through : ByteArray := prog_8_method_30_code
def yX6_through : MethodName := ⟨RX6, "through", "(II)I"⟩
abbrev cX6_weightOf : ByteArray := prog_8_method_31_code
def yX6_weightOf : MethodName := ⟨RX6, "weightOf", "(II)I"⟩
abbrev cX6_weight : ByteArray := prog_8_method_32_code
def yX6_weight : MethodName := ⟨RX6, "weight", "(II)I"⟩
abbrev cX6_guilty : ByteArray := prog_8_method_33_code
def yX6_guilty : MethodName := ⟨RX6, "guilty", "(I)I"⟩
abbrev cX6_areAlike : ByteArray := prog_8_method_34_code
def yX6_areAlike : MethodName := ⟨RX6, "areAlike", "(II)Z"⟩
abbrev cX6_isStuck : ByteArray := prog_8_method_35_code
def yX6_isStuck : MethodName := ⟨RX6, "isStuck", "(I)Z"⟩
abbrev cX6_stuck : ByteArray := prog_8_method_36_code
def yX6_stuck : MethodName := ⟨RX6, "stuck", "(I)I"⟩
abbrev cX6_aheads : ByteArray := prog_8_method_37_code
def yX6_aheads : MethodName := ⟨RX6, "aheads", "()V"⟩
abbrev cX6_measures : ByteArray := prog_8_method_38_code
def yX6_measures : MethodName := ⟨RX6, "measures", "(I)I"⟩
abbrev cX6_breaks : ByteArray := prog_8_method_39_code
def yX6_breaks : MethodName := ⟨RX6, "breaks", "()V"⟩
abbrev cX6_broken : ByteArray := prog_8_method_40_code
def yX6_broken : MethodName := ⟨RX6, "broken", "(I)I"⟩
abbrev cX6_meter : ByteArray := prog_8_method_41_code
def yX6_meter : MethodName := ⟨RX6, "meter", "(II)Z"⟩
abbrev cX6_work : ByteArray := prog_8_method_42_code
def yX6_work : MethodName := ⟨RX6, "work", "(IIII)I"⟩
abbrev cX6_least : ByteArray := prog_8_method_43_code
def yX6_least : MethodName := ⟨RX6, "least", "(II)I"⟩
abbrev cX6_distanceOf : ByteArray := prog_8_method_44_code
def yX6_distanceOf : MethodName := ⟨RX6, "distanceOf", "(II)I"⟩
abbrev cX6_distance : ByteArray := prog_8_method_45_code
def yX6_distance : MethodName := ⟨RX6, "distance", "(III)I"⟩
abbrev cX6_hangs : ByteArray := prog_8_method_46_code
def yX6_hangs : MethodName := ⟨RX6, "hangs", "(II)V"⟩
abbrev cX6_heaps : ByteArray := prog_8_method_47_code
def yX6_heaps : MethodName := ⟨RX6, "heaps", "(II)I"⟩
abbrev cX6_heap : ByteArray := prog_8_method_48_code
def yX6_heap : MethodName := ⟨RX6, "heap", "(III)I"⟩
abbrev cX6_order : ByteArray := prog_8_method_49_code
def yX6_order : MethodName := ⟨RX6, "order", "(I)I"⟩
abbrev cX6_count : ByteArray := prog_8_method_50_code
def yX6_count : MethodName := ⟨RX6, "count", "(II)I"⟩
def RJ9 : String := "java/lang/Math"
def TJ9 : u_T := fun k => match k with
  | _ => ("", "", "", false)
def tyJ9 : Nat → FieldType := fun k => match k with
  | _ => .int
abbrev wsJ90 : List Cond := u_ws RJ9 TJ9 0
theorem nmJ9 : ∀ a, a < 0 → ∀ b, b < 0 → a ≠ b → (TJ9 a).2.1 ≠ (TJ9 b).2.1 := by decide +kernel
theorem tyJ9_ok : ∀ k, k < 0 → parseFieldDescriptor (TJ9 k).2.2.1 = some (tyJ9 k) := by decide +kernel
abbrev cJ9_floorMod_7cf53 : ByteArray := prog_9_method_50_code
def yJ9_floorMod_7cf53 : MethodName := ⟨RJ9, "floorMod", "(II)I"⟩
abbrev cJ9_min_7cf53 : ByteArray := prog_9_method_69_code
def yJ9_min_7cf53 : MethodName := ⟨RJ9, "min", "(II)I"⟩
def RL : String := "StuckHandsLaw"
abbrev cL_law : ByteArray := code
def yL_law : MethodName := ⟨RL, "law", "([I)Z"⟩
abbrev vwCl : List vw_C := [(RX0, TX0, 4), (RX1, TX1, 11), (RX2, TX2, 7), (RX3, TX3, 2), (RX4, TX4, 4), (RX5, TX5, 6), (RX6, TX6, 31)]
