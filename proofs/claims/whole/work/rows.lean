section
-- ===== PART A: goes FIRST, ahead of the names: the tables' words, and 'selects' of the private methods out of them =====
/-- a private method of a class that the tables say can be made, by its rows of tables_1 -/
def lw_okq (q : MethodName × Nat) : Prop := (q.1.cls ≠ "java/lang/invoke/MethodHandle" ∧ q.1.cls ≠ "java/lang/invoke/VarHandle") ∧ Cond.instantiable q.1.cls q.2 ∈ tables_1 ∧ Cond.privateMethod q.1 ∈ tables_1 ∧ Cond.instanceMethod q.1 ∈ tables_1
theorem lw_p0 : lw_okq (⟨"StuckHands", "isTickTaken", "(I)Z"⟩, 6) := ⟨⟨by decide +kernel, by decide +kernel⟩, List.mem_of_getElem? (i := 10) (by decide +kernel), List.mem_of_getElem? (i := 127) (by decide +kernel), List.mem_of_getElem? (i := 128) (by decide +kernel)⟩
theorem lw_p1 : lw_okq (⟨"StuckHands$RowReader", "readRow", "(LStuckHands$Row;)Z"⟩, 2) := ⟨⟨by decide +kernel, by decide +kernel⟩, List.mem_of_getElem? (i := 179) (by decide +kernel), List.mem_of_getElem? (i := 239) (by decide +kernel), List.mem_of_getElem? (i := 240) (by decide +kernel)⟩
theorem lw_p2 : lw_okq (⟨"StuckHands$RowReader", "readThread", "(LStuckHands$Row;)Z"⟩, 2) := ⟨⟨by decide +kernel, by decide +kernel⟩, List.mem_of_getElem? (i := 179) (by decide +kernel), List.mem_of_getElem? (i := 243) (by decide +kernel), List.mem_of_getElem? (i := 244) (by decide +kernel)⟩
theorem lw_p3 : lw_okq (⟨"StuckHands$RowReader", "readState", "(LStuckHands$Row;)Z"⟩, 2) := ⟨⟨by decide +kernel, by decide +kernel⟩, List.mem_of_getElem? (i := 179) (by decide +kernel), List.mem_of_getElem? (i := 256) (by decide +kernel), List.mem_of_getElem? (i := 257) (by decide +kernel)⟩
theorem lw_p4 : lw_okq (⟨"StuckHands$RowReader", "readCounter", "(LStuckHands$Row;)Z"⟩, 2) := ⟨⟨by decide +kernel, by decide +kernel⟩, List.mem_of_getElem? (i := 179) (by decide +kernel), List.mem_of_getElem? (i := 260) (by decide +kernel), List.mem_of_getElem? (i := 261) (by decide +kernel)⟩
theorem lw_p5 : lw_okq (⟨"StuckHands$RowReader", "readHeld", "(LStuckHands$Row;)Z"⟩, 2) := ⟨⟨by decide +kernel, by decide +kernel⟩, List.mem_of_getElem? (i := 179) (by decide +kernel), List.mem_of_getElem? (i := 264) (by decide +kernel), List.mem_of_getElem? (i := 265) (by decide +kernel)⟩
theorem lw_p6 : lw_okq (⟨"StuckHands$RowReader", "readHeldLock", "(LStuckHands$Row;)Z"⟩, 2) := ⟨⟨by decide +kernel, by decide +kernel⟩, List.mem_of_getElem? (i := 179) (by decide +kernel), List.mem_of_getElem? (i := 268) (by decide +kernel), List.mem_of_getElem? (i := 269) (by decide +kernel)⟩
theorem lw_p7 : lw_okq (⟨"StuckHands$RowReader", "readWait", "(LStuckHands$Row;)Z"⟩, 2) := ⟨⟨by decide +kernel, by decide +kernel⟩, List.mem_of_getElem? (i := 179) (by decide +kernel), List.mem_of_getElem? (i := 286) (by decide +kernel), List.mem_of_getElem? (i := 287) (by decide +kernel)⟩
theorem lw_p8 : lw_okq (⟨"StuckHands$RowReader", "readCalls", "(LStuckHands$Row;)Z"⟩, 2) := ⟨⟨by decide +kernel, by decide +kernel⟩, List.mem_of_getElem? (i := 179) (by decide +kernel), List.mem_of_getElem? (i := 290) (by decide +kernel), List.mem_of_getElem? (i := 291) (by decide +kernel)⟩
theorem lw_p9 : lw_okq (⟨"StuckHands$Picture", "measureFrom", "(LStuckHands$Row;)V"⟩, 11) := ⟨⟨by decide +kernel, by decide +kernel⟩, List.mem_of_getElem? (i := 130) (by decide +kernel), List.mem_of_getElem? (i := 307) (by decide +kernel), List.mem_of_getElem? (i := 308) (by decide +kernel)⟩
theorem lw_p10 : lw_okq (⟨"StuckHands$Picture", "followChainOf", "(I)V"⟩, 11) := ⟨⟨by decide +kernel, by decide +kernel⟩, List.mem_of_getElem? (i := 130) (by decide +kernel), List.mem_of_getElem? (i := 325) (by decide +kernel), List.mem_of_getElem? (i := 326) (by decide +kernel)⟩
theorem lw_p11 : lw_okq (⟨"StuckHands$LockOrder", "learnRow", "(LStuckHands$Row;)V"⟩, 4) := ⟨⟨by decide +kernel, by decide +kernel⟩, List.mem_of_getElem? (i := 42) (by decide +kernel), List.mem_of_getElem? (i := 346) (by decide +kernel), List.mem_of_getElem? (i := 347) (by decide +kernel)⟩
theorem lw_p12 : lw_okq (⟨"StuckHands$LockOrder", "findRing", "()V"⟩, 4) := ⟨⟨by decide +kernel, by decide +kernel⟩, List.mem_of_getElem? (i := 42) (by decide +kernel), List.mem_of_getElem? (i := 351) (by decide +kernel), List.mem_of_getElem? (i := 352) (by decide +kernel)⟩
theorem lw_p13 : lw_okq (⟨"StuckHands$LockOrder", "measureWaysBack", "(I)V"⟩, 4) := ⟨⟨by decide +kernel, by decide +kernel⟩, List.mem_of_getElem? (i := 42) (by decide +kernel), List.mem_of_getElem? (i := 355) (by decide +kernel), List.mem_of_getElem? (i := 356) (by decide +kernel)⟩
theorem lw_p14 : lw_okq (⟨"StuckHands$LockOrder", "stepBack", "(III)I"⟩, 4) := ⟨⟨by decide +kernel, by decide +kernel⟩, List.mem_of_getElem? (i := 42) (by decide +kernel), List.mem_of_getElem? (i := 359) (by decide +kernel), List.mem_of_getElem? (i := 360) (by decide +kernel)⟩
theorem lw_p15 : lw_okq (⟨"StuckHands$LockOrder", "sizeOfRingFrom", "(I)I"⟩, 4) := ⟨⟨by decide +kernel, by decide +kernel⟩, List.mem_of_getElem? (i := 42) (by decide +kernel), List.mem_of_getElem? (i := 363) (by decide +kernel), List.mem_of_getElem? (i := 364) (by decide +kernel)⟩
def lw_privs_1 : List (MethodName × Nat) := [(⟨"StuckHands", "isTickTaken", "(I)Z"⟩, 6), (⟨"StuckHands$RowReader", "readRow", "(LStuckHands$Row;)Z"⟩, 2), (⟨"StuckHands$RowReader", "readThread", "(LStuckHands$Row;)Z"⟩, 2), (⟨"StuckHands$RowReader", "readState", "(LStuckHands$Row;)Z"⟩, 2), (⟨"StuckHands$RowReader", "readCounter", "(LStuckHands$Row;)Z"⟩, 2), (⟨"StuckHands$RowReader", "readHeld", "(LStuckHands$Row;)Z"⟩, 2), (⟨"StuckHands$RowReader", "readHeldLock", "(LStuckHands$Row;)Z"⟩, 2), (⟨"StuckHands$RowReader", "readWait", "(LStuckHands$Row;)Z"⟩, 2), (⟨"StuckHands$RowReader", "readCalls", "(LStuckHands$Row;)Z"⟩, 2), (⟨"StuckHands$Picture", "measureFrom", "(LStuckHands$Row;)V"⟩, 11), (⟨"StuckHands$Picture", "followChainOf", "(I)V"⟩, 11), (⟨"StuckHands$LockOrder", "learnRow", "(LStuckHands$Row;)V"⟩, 4), (⟨"StuckHands$LockOrder", "findRing", "()V"⟩, 4), (⟨"StuckHands$LockOrder", "measureWaysBack", "(I)V"⟩, 4), (⟨"StuckHands$LockOrder", "stepBack", "(III)I"⟩, 4), (⟨"StuckHands$LockOrder", "sizeOfRingFrom", "(I)I"⟩, 4)]
theorem lw_r1 : ∀ q ∈ lw_privs_1, lw_okq q := List.forall_mem_cons.mpr ⟨lw_p0, List.forall_mem_cons.mpr ⟨lw_p1, List.forall_mem_cons.mpr ⟨lw_p2, List.forall_mem_cons.mpr ⟨lw_p3, List.forall_mem_cons.mpr ⟨lw_p4, List.forall_mem_cons.mpr ⟨lw_p5, List.forall_mem_cons.mpr ⟨lw_p6, List.forall_mem_cons.mpr ⟨lw_p7, List.forall_mem_cons.mpr ⟨lw_p8, List.forall_mem_cons.mpr ⟨lw_p9, List.forall_mem_cons.mpr ⟨lw_p10, List.forall_mem_cons.mpr ⟨lw_p11, List.forall_mem_cons.mpr ⟨lw_p12, List.forall_mem_cons.mpr ⟨lw_p13, List.forall_mem_cons.mpr ⟨lw_p14, List.forall_mem_cons.mpr ⟨lw_p15, fun _ h => absurd h List.not_mem_nil⟩⟩⟩⟩⟩⟩⟩⟩⟩⟩⟩⟩⟩⟩⟩⟩
theorem lw_p16 : lw_okq (⟨"StuckHands$LockOrder", "keepRing", "(II)V"⟩, 4) := ⟨⟨by decide +kernel, by decide +kernel⟩, List.mem_of_getElem? (i := 42) (by decide +kernel), List.mem_of_getElem? (i := 369) (by decide +kernel), List.mem_of_getElem? (i := 370) (by decide +kernel)⟩
theorem lw_p17 : lw_okq (⟨"StuckHands$LockOrder", "lowestBehind", "(II)I"⟩, 4) := ⟨⟨by decide +kernel, by decide +kernel⟩, List.mem_of_getElem? (i := 42) (by decide +kernel), List.mem_of_getElem? (i := 373) (by decide +kernel), List.mem_of_getElem? (i := 374) (by decide +kernel)⟩
theorem lw_p18 : lw_okq (⟨"StuckHands", "pictureAt", "(I)LStuckHands$Picture;"⟩, 6) := ⟨⟨by decide +kernel, by decide +kernel⟩, List.mem_of_getElem? (i := 10) (by decide +kernel), List.mem_of_getElem? (i := 381) (by decide +kernel), List.mem_of_getElem? (i := 382) (by decide +kernel)⟩
theorem lw_p19 : lw_okq (⟨"StuckHands", "rowAt", "(II)LStuckHands$Row;"⟩, 6) := ⟨⟨by decide +kernel, by decide +kernel⟩, List.mem_of_getElem? (i := 10) (by decide +kernel), List.mem_of_getElem? (i := 389) (by decide +kernel), List.mem_of_getElem? (i := 390) (by decide +kernel)⟩
theorem lw_p20 : lw_okq (⟨"StuckHands$Picture", "sizeOfRingFrom", "(I)I"⟩, 11) := ⟨⟨by decide +kernel, by decide +kernel⟩, List.mem_of_getElem? (i := 130) (by decide +kernel), List.mem_of_getElem? (i := 411) (by decide +kernel), List.mem_of_getElem? (i := 412) (by decide +kernel)⟩
theorem lw_p21 : lw_okq (⟨"StuckHands$Picture", "walkFrom", "(II)I"⟩, 11) := ⟨⟨by decide +kernel, by decide +kernel⟩, List.mem_of_getElem? (i := 130) (by decide +kernel), List.mem_of_getElem? (i := 423) (by decide +kernel), List.mem_of_getElem? (i := 424) (by decide +kernel)⟩
theorem lw_p22 : lw_okq (⟨"StuckHands", "isStuck", "(I)Z"⟩, 6) := ⟨⟨by decide +kernel, by decide +kernel⟩, List.mem_of_getElem? (i := 10) (by decide +kernel), List.mem_of_getElem? (i := 465) (by decide +kernel), List.mem_of_getElem? (i := 466) (by decide +kernel)⟩
theorem lw_p23 : lw_okq (⟨"StuckHands$Row", "hasCallsOf", "(LStuckHands$Row;)Z"⟩, 7) := ⟨⟨by decide +kernel, by decide +kernel⟩, List.mem_of_getElem? (i := 197) (by decide +kernel), List.mem_of_getElem? (i := 473) (by decide +kernel), List.mem_of_getElem? (i := 474) (by decide +kernel)⟩
theorem lw_p24 : lw_okq (⟨"StuckHands", "workBetween", "(LStuckHands$Picture;LStuckHands$Picture;II)I"⟩, 6) := ⟨⟨by decide +kernel, by decide +kernel⟩, List.mem_of_getElem? (i := 10) (by decide +kernel), List.mem_of_getElem? (i := 493) (by decide +kernel), List.mem_of_getElem? (i := 494) (by decide +kernel)⟩
theorem lw_p25 : lw_okq (⟨"StuckHands$Picture", "neighboursOf", "(II)I"⟩, 11) := ⟨⟨by decide +kernel, by decide +kernel⟩, List.mem_of_getElem? (i := 130) (by decide +kernel), List.mem_of_getElem? (i := 527) (by decide +kernel), List.mem_of_getElem? (i := 528) (by decide +kernel)⟩
theorem lw_p26 : lw_okq (⟨"StuckHands", "countAhead", "(I)I"⟩, 6) := ⟨⟨by decide +kernel, by decide +kernel⟩, List.mem_of_getElem? (i := 10) (by decide +kernel), List.mem_of_getElem? (i := 542) (by decide +kernel), List.mem_of_getElem? (i := 543) (by decide +kernel)⟩
theorem lw_p27 : lw_okq (⟨"StuckHands", "countOfReader", "(I)I"⟩, 6) := ⟨⟨by decide +kernel, by decide +kernel⟩, List.mem_of_getElem? (i := 10) (by decide +kernel), List.mem_of_getElem? (i := 550) (by decide +kernel), List.mem_of_getElem? (i := 551) (by decide +kernel)⟩
theorem lw_p28 : lw_okq (⟨"StuckHandsModel", "push", "(I)V"⟩, 31) := ⟨⟨by decide +kernel, by decide +kernel⟩, List.mem_of_getElem? (i := 554) (by decide +kernel), List.mem_of_getElem? (i := 659) (by decide +kernel), List.mem_of_getElem? (i := 660) (by decide +kernel)⟩
theorem lw_p29 : lw_okq (⟨"StuckHandsModel", "here", "()I"⟩, 31) := ⟨⟨by decide +kernel, by decide +kernel⟩, List.mem_of_getElem? (i := 554) (by decide +kernel), List.mem_of_getElem? (i := 667) (by decide +kernel), List.mem_of_getElem? (i := 668) (by decide +kernel)⟩
theorem lw_p30 : lw_okq (⟨"StuckHandsModel", "number", "(II)I"⟩, 31) := ⟨⟨by decide +kernel, by decide +kernel⟩, List.mem_of_getElem? (i := 554) (by decide +kernel), List.mem_of_getElem? (i := 671) (by decide +kernel), List.mem_of_getElem? (i := 672) (by decide +kernel)⟩
theorem lw_p31 : lw_okq (⟨"StuckHandsModel", "seesDigit", "()Z"⟩, 31) := ⟨⟨by decide +kernel, by decide +kernel⟩, List.mem_of_getElem? (i := 554) (by decide +kernel), List.mem_of_getElem? (i := 675) (by decide +kernel), List.mem_of_getElem? (i := 676) (by decide +kernel)⟩
def lw_privs_2 : List (MethodName × Nat) := [(⟨"StuckHands$LockOrder", "keepRing", "(II)V"⟩, 4), (⟨"StuckHands$LockOrder", "lowestBehind", "(II)I"⟩, 4), (⟨"StuckHands", "pictureAt", "(I)LStuckHands$Picture;"⟩, 6), (⟨"StuckHands", "rowAt", "(II)LStuckHands$Row;"⟩, 6), (⟨"StuckHands$Picture", "sizeOfRingFrom", "(I)I"⟩, 11), (⟨"StuckHands$Picture", "walkFrom", "(II)I"⟩, 11), (⟨"StuckHands", "isStuck", "(I)Z"⟩, 6), (⟨"StuckHands$Row", "hasCallsOf", "(LStuckHands$Row;)Z"⟩, 7), (⟨"StuckHands", "workBetween", "(LStuckHands$Picture;LStuckHands$Picture;II)I"⟩, 6), (⟨"StuckHands$Picture", "neighboursOf", "(II)I"⟩, 11), (⟨"StuckHands", "countAhead", "(I)I"⟩, 6), (⟨"StuckHands", "countOfReader", "(I)I"⟩, 6), (⟨"StuckHandsModel", "push", "(I)V"⟩, 31), (⟨"StuckHandsModel", "here", "()I"⟩, 31), (⟨"StuckHandsModel", "number", "(II)I"⟩, 31), (⟨"StuckHandsModel", "seesDigit", "()Z"⟩, 31)]
theorem lw_r2 : ∀ q ∈ lw_privs_2, lw_okq q := List.forall_mem_cons.mpr ⟨lw_p16, List.forall_mem_cons.mpr ⟨lw_p17, List.forall_mem_cons.mpr ⟨lw_p18, List.forall_mem_cons.mpr ⟨lw_p19, List.forall_mem_cons.mpr ⟨lw_p20, List.forall_mem_cons.mpr ⟨lw_p21, List.forall_mem_cons.mpr ⟨lw_p22, List.forall_mem_cons.mpr ⟨lw_p23, List.forall_mem_cons.mpr ⟨lw_p24, List.forall_mem_cons.mpr ⟨lw_p25, List.forall_mem_cons.mpr ⟨lw_p26, List.forall_mem_cons.mpr ⟨lw_p27, List.forall_mem_cons.mpr ⟨lw_p28, List.forall_mem_cons.mpr ⟨lw_p29, List.forall_mem_cons.mpr ⟨lw_p30, List.forall_mem_cons.mpr ⟨lw_p31, fun _ h => absurd h List.not_mem_nil⟩⟩⟩⟩⟩⟩⟩⟩⟩⟩⟩⟩⟩⟩⟩⟩
theorem lw_p32 : lw_okq (⟨"StuckHandsModel", "tears", "(I)V"⟩, 31) := ⟨⟨by decide +kernel, by decide +kernel⟩, List.mem_of_getElem? (i := 554) (by decide +kernel), List.mem_of_getElem? (i := 682) (by decide +kernel), List.mem_of_getElem? (i := 683) (by decide +kernel)⟩
theorem lw_p33 : lw_okq (⟨"StuckHandsModel", "readRow", "(I)V"⟩, 31) := ⟨⟨by decide +kernel, by decide +kernel⟩, List.mem_of_getElem? (i := 554) (by decide +kernel), List.mem_of_getElem? (i := 686) (by decide +kernel), List.mem_of_getElem? (i := 687) (by decide +kernel)⟩
theorem lw_p34 : lw_okq (⟨"StuckHandsModel", "readLocks", "(I)V"⟩, 31) := ⟨⟨by decide +kernel, by decide +kernel⟩, List.mem_of_getElem? (i := 554) (by decide +kernel), List.mem_of_getElem? (i := 693) (by decide +kernel), List.mem_of_getElem? (i := 694) (by decide +kernel)⟩
theorem lw_p35 : lw_okq (⟨"StuckHandsModel", "heldBy", "(I)I"⟩, 31) := ⟨⟨by decide +kernel, by decide +kernel⟩, List.mem_of_getElem? (i := 554) (by decide +kernel), List.mem_of_getElem? (i := 697) (by decide +kernel), List.mem_of_getElem? (i := 698) (by decide +kernel)⟩
theorem lw_p36 : lw_okq (⟨"StuckHandsModel", "readCalls", "()V"⟩, 31) := ⟨⟨by decide +kernel, by decide +kernel⟩, List.mem_of_getElem? (i := 554) (by decide +kernel), List.mem_of_getElem? (i := 701) (by decide +kernel), List.mem_of_getElem? (i := 702) (by decide +kernel)⟩
theorem lw_p37 : lw_okq (⟨"StuckHandsModel", "stands", "(I)V"⟩, 31) := ⟨⟨by decide +kernel, by decide +kernel⟩, List.mem_of_getElem? (i := 554) (by decide +kernel), List.mem_of_getElem? (i := 705) (by decide +kernel), List.mem_of_getElem? (i := 706) (by decide +kernel)⟩
theorem lw_p38 : lw_okq (⟨"StuckHandsModel", "isPicture", "(I)Z"⟩, 31) := ⟨⟨by decide +kernel, by decide +kernel⟩, List.mem_of_getElem? (i := 554) (by decide +kernel), List.mem_of_getElem? (i := 713) (by decide +kernel), List.mem_of_getElem? (i := 714) (by decide +kernel)⟩
theorem lw_p39 : lw_okq (⟨"StuckHandsModel", "isThere", "(II)Z"⟩, 31) := ⟨⟨by decide +kernel, by decide +kernel⟩, List.mem_of_getElem? (i := 554) (by decide +kernel), List.mem_of_getElem? (i := 721) (by decide +kernel), List.mem_of_getElem? (i := 722) (by decide +kernel)⟩
theorem lw_p40 : lw_okq (⟨"StuckHandsModel", "holderOf", "(II)I"⟩, 31) := ⟨⟨by decide +kernel, by decide +kernel⟩, List.mem_of_getElem? (i := 554) (by decide +kernel), List.mem_of_getElem? (i := 729) (by decide +kernel), List.mem_of_getElem? (i := 730) (by decide +kernel)⟩
theorem lw_p41 : lw_okq (⟨"StuckHandsModel", "isLowest", "(II)Z"⟩, 31) := ⟨⟨by decide +kernel, by decide +kernel⟩, List.mem_of_getElem? (i := 554) (by decide +kernel), List.mem_of_getElem? (i := 737) (by decide +kernel), List.mem_of_getElem? (i := 738) (by decide +kernel)⟩
theorem lw_p42 : lw_okq (⟨"StuckHandsModel", "back", "(II)I"⟩, 31) := ⟨⟨by decide +kernel, by decide +kernel⟩, List.mem_of_getElem? (i := 554) (by decide +kernel), List.mem_of_getElem? (i := 741) (by decide +kernel), List.mem_of_getElem? (i := 742) (by decide +kernel)⟩
theorem lw_p43 : lw_okq (⟨"StuckHandsModel", "next", "(II)I"⟩, 31) := ⟨⟨by decide +kernel, by decide +kernel⟩, List.mem_of_getElem? (i := 554) (by decide +kernel), List.mem_of_getElem? (i := 745) (by decide +kernel), List.mem_of_getElem? (i := 746) (by decide +kernel)⟩
theorem lw_p44 : lw_okq (⟨"StuckHandsModel", "after", "(III)I"⟩, 31) := ⟨⟨by decide +kernel, by decide +kernel⟩, List.mem_of_getElem? (i := 554) (by decide +kernel), List.mem_of_getElem? (i := 753) (by decide +kernel), List.mem_of_getElem? (i := 754) (by decide +kernel)⟩
theorem lw_p45 : lw_okq (⟨"StuckHandsModel", "comes", "(III)Z"⟩, 31) := ⟨⟨by decide +kernel, by decide +kernel⟩, List.mem_of_getElem? (i := 554) (by decide +kernel), List.mem_of_getElem? (i := 765) (by decide +kernel), List.mem_of_getElem? (i := 766) (by decide +kernel)⟩
theorem lw_p46 : lw_okq (⟨"StuckHandsModel", "weightOf", "(II)I"⟩, 31) := ⟨⟨by decide +kernel, by decide +kernel⟩, List.mem_of_getElem? (i := 554) (by decide +kernel), List.mem_of_getElem? (i := 773) (by decide +kernel), List.mem_of_getElem? (i := 774) (by decide +kernel)⟩
theorem lw_p47 : lw_okq (⟨"StuckHandsModel", "isStuck", "(I)Z"⟩, 31) := ⟨⟨by decide +kernel, by decide +kernel⟩, List.mem_of_getElem? (i := 554) (by decide +kernel), List.mem_of_getElem? (i := 785) (by decide +kernel), List.mem_of_getElem? (i := 786) (by decide +kernel)⟩
def lw_privs_3 : List (MethodName × Nat) := [(⟨"StuckHandsModel", "tears", "(I)V"⟩, 31), (⟨"StuckHandsModel", "readRow", "(I)V"⟩, 31), (⟨"StuckHandsModel", "readLocks", "(I)V"⟩, 31), (⟨"StuckHandsModel", "heldBy", "(I)I"⟩, 31), (⟨"StuckHandsModel", "readCalls", "()V"⟩, 31), (⟨"StuckHandsModel", "stands", "(I)V"⟩, 31), (⟨"StuckHandsModel", "isPicture", "(I)Z"⟩, 31), (⟨"StuckHandsModel", "isThere", "(II)Z"⟩, 31), (⟨"StuckHandsModel", "holderOf", "(II)I"⟩, 31), (⟨"StuckHandsModel", "isLowest", "(II)Z"⟩, 31), (⟨"StuckHandsModel", "back", "(II)I"⟩, 31), (⟨"StuckHandsModel", "next", "(II)I"⟩, 31), (⟨"StuckHandsModel", "after", "(III)I"⟩, 31), (⟨"StuckHandsModel", "comes", "(III)Z"⟩, 31), (⟨"StuckHandsModel", "weightOf", "(II)I"⟩, 31), (⟨"StuckHandsModel", "isStuck", "(I)Z"⟩, 31)]
theorem lw_r3 : ∀ q ∈ lw_privs_3, lw_okq q := List.forall_mem_cons.mpr ⟨lw_p32, List.forall_mem_cons.mpr ⟨lw_p33, List.forall_mem_cons.mpr ⟨lw_p34, List.forall_mem_cons.mpr ⟨lw_p35, List.forall_mem_cons.mpr ⟨lw_p36, List.forall_mem_cons.mpr ⟨lw_p37, List.forall_mem_cons.mpr ⟨lw_p38, List.forall_mem_cons.mpr ⟨lw_p39, List.forall_mem_cons.mpr ⟨lw_p40, List.forall_mem_cons.mpr ⟨lw_p41, List.forall_mem_cons.mpr ⟨lw_p42, List.forall_mem_cons.mpr ⟨lw_p43, List.forall_mem_cons.mpr ⟨lw_p44, List.forall_mem_cons.mpr ⟨lw_p45, List.forall_mem_cons.mpr ⟨lw_p46, List.forall_mem_cons.mpr ⟨lw_p47, fun _ h => absurd h List.not_mem_nil⟩⟩⟩⟩⟩⟩⟩⟩⟩⟩⟩⟩⟩⟩⟩⟩
theorem lw_p48 : lw_okq (⟨"StuckHandsModel", "areAlike", "(II)Z"⟩, 31) := ⟨⟨by decide +kernel, by decide +kernel⟩, List.mem_of_getElem? (i := 554) (by decide +kernel), List.mem_of_getElem? (i := 789) (by decide +kernel), List.mem_of_getElem? (i := 790) (by decide +kernel)⟩
theorem lw_p49 : lw_okq (⟨"StuckHandsModel", "breaks", "()V"⟩, 31) := ⟨⟨by decide +kernel, by decide +kernel⟩, List.mem_of_getElem? (i := 554) (by decide +kernel), List.mem_of_getElem? (i := 797) (by decide +kernel), List.mem_of_getElem? (i := 798) (by decide +kernel)⟩
theorem lw_p50 : lw_okq (⟨"StuckHandsModel", "aheads", "()V"⟩, 31) := ⟨⟨by decide +kernel, by decide +kernel⟩, List.mem_of_getElem? (i := 554) (by decide +kernel), List.mem_of_getElem? (i := 801) (by decide +kernel), List.mem_of_getElem? (i := 802) (by decide +kernel)⟩
theorem lw_p51 : lw_okq (⟨"StuckHandsModel", "measures", "(I)I"⟩, 31) := ⟨⟨by decide +kernel, by decide +kernel⟩, List.mem_of_getElem? (i := 554) (by decide +kernel), List.mem_of_getElem? (i := 805) (by decide +kernel), List.mem_of_getElem? (i := 806) (by decide +kernel)⟩
theorem lw_p52 : lw_okq (⟨"StuckHandsModel", "distanceOf", "(II)I"⟩, 31) := ⟨⟨by decide +kernel, by decide +kernel⟩, List.mem_of_getElem? (i := 554) (by decide +kernel), List.mem_of_getElem? (i := 821) (by decide +kernel), List.mem_of_getElem? (i := 822) (by decide +kernel)⟩
theorem lw_p53 : lw_okq (⟨"StuckHandsModel", "hangs", "(II)V"⟩, 31) := ⟨⟨by decide +kernel, by decide +kernel⟩, List.mem_of_getElem? (i := 554) (by decide +kernel), List.mem_of_getElem? (i := 832) (by decide +kernel), List.mem_of_getElem? (i := 833) (by decide +kernel)⟩
def lw_privs_4 : List (MethodName × Nat) := [(⟨"StuckHandsModel", "areAlike", "(II)Z"⟩, 31), (⟨"StuckHandsModel", "breaks", "()V"⟩, 31), (⟨"StuckHandsModel", "aheads", "()V"⟩, 31), (⟨"StuckHandsModel", "measures", "(I)I"⟩, 31), (⟨"StuckHandsModel", "distanceOf", "(II)I"⟩, 31), (⟨"StuckHandsModel", "hangs", "(II)V"⟩, 31)]
theorem lw_r4 : ∀ q ∈ lw_privs_4, lw_okq q := List.forall_mem_cons.mpr ⟨lw_p48, List.forall_mem_cons.mpr ⟨lw_p49, List.forall_mem_cons.mpr ⟨lw_p50, List.forall_mem_cons.mpr ⟨lw_p51, List.forall_mem_cons.mpr ⟨lw_p52, List.forall_mem_cons.mpr ⟨lw_p53, fun _ h => absurd h List.not_mem_nil⟩⟩⟩⟩⟩⟩
def lw_privs : List (MethodName × Nat) := lw_privs_1 ++ (lw_privs_2 ++ (lw_privs_3 ++ (lw_privs_4)))
def lw_tbl : List Cond := k2_sels lw_privs ++ tables_1
theorem lw_privs_ok : ∀ q ∈ lw_privs, lw_okq q := by
  show ∀ q ∈ lw_privs_1 ++ (lw_privs_2 ++ (lw_privs_3 ++ (lw_privs_4))), lw_okq q
  exact List.forall_mem_append.mpr ⟨lw_r1, List.forall_mem_append.mpr ⟨lw_r2, List.forall_mem_append.mpr ⟨lw_r3, lw_r4⟩⟩⟩
/-! ===== BEGIN words of one list among another's, by their places ===== -/
theorem goodIn_r {big : List Cond} (ws : List Cond) (ps : List Nat) (hp : ws = ps.filterMap (fun i => big[i]?)) (h : ws.all goodWord = true) : GoodIn big ws := by
  intro w hw
  have h1 := List.all_eq_true.mp h w hw
  rw [hp] at hw
  obtain ⟨i, -, hi⟩ := List.mem_filterMap.mp hw
  have hm : w ∈ big := by first | exact List.mem_of_getElem? hi | exact List.getElem?_mem hi
  exact ⟨hm, good_of_word h1⟩
theorem goodIn_app {big a b : List Cond} (ha : GoodIn big a) (hb : GoodIn big b) : GoodIn big (a ++ b) := fun w h => (List.mem_append.mp h).elim (ha w) (hb w)
theorem goodIn_ca {big a b : List Cond} {c : Cond} (ha : GoodIn big (c :: a)) (hb : GoodIn big b) : GoodIn big (c :: (a ++ b)) := fun w h => (List.mem_cons.mp h).elim (fun e => ha w (List.mem_cons.mpr (Or.inl e))) (fun h => (List.mem_append.mp h).elim (fun h => ha w (List.mem_cons.mpr (Or.inr h))) (hb w))
theorem goodIn_sub {big ws : List Cond} (hm : ∀ w ∈ ws, w ∈ big) (h : ws.all goodWord = true) : GoodIn big ws := fun w hw => ⟨hm w hw, good_of_word (List.all_eq_true.mp h w hw)⟩
/-! ===== END ===== -/

/-! ===== BEGIN printed: names, fields, word lists, decode rows ===== -/
def RX0 : String := "StuckHands$LockOrder"
def TX0 : u_T := fun k => match k with
  | 0 => ("StuckHands$LockOrder", "behind", "[I", true)
  | 1 => ("StuckHands$LockOrder", "wayBack", "[I", true)
  | 2 => ("StuckHands$LockOrder", "ring", "[I", true)
  | _ => ("StuckHands$LockOrder", "ringSize", "I", false)
def tyX0 : Nat → FieldType := fun k => match k with
  | 0 => .array .int
  | 1 => .array .int
  | 2 => .array .int
  | _ => .int
abbrev wsX00 : List Cond := u_ws RX0 TX0 4
theorem nmX0 : ∀ a, a < 4 → ∀ b, b < 4 → a ≠ b → (TX0 a).2.1 ≠ (TX0 b).2.1 := by decide +kernel
theorem tyX0_ok : ∀ k, k < 4 → parseFieldDescriptor (TX0 k).2.2.1 = some (tyX0 k) := by decide +kernel
abbrev cX0_init : ByteArray := prog_2_method_1_code
def yX0_init : MethodName := ⟨RX0, "<init>", "()V"⟩
abbrev cX0_learn : ByteArray := prog_2_method_2_code
def yX0_learn : MethodName := ⟨RX0, "learn", "(LStuckHands$Picture;)V"⟩
abbrev cX0_lockOfRing : ByteArray := prog_2_method_3_code
def yX0_lockOfRing : MethodName := ⟨RX0, "lockOfRing", "(I)I"⟩
abbrev cX0_learnRow : ByteArray := prog_2_method_4_code
def yX0_learnRow : MethodName := ⟨RX0, "learnRow", "(LStuckHands$Row;)V"⟩
abbrev cX0_findRing : ByteArray := prog_2_method_5_code
def yX0_findRing : MethodName := ⟨RX0, "findRing", "()V"⟩
abbrev cX0_measureWaysBack : ByteArray := prog_2_method_6_code
def yX0_measureWaysBack : MethodName := ⟨RX0, "measureWaysBack", "(I)V"⟩
abbrev cX0_stepBack : ByteArray := prog_2_method_7_code
def yX0_stepBack : MethodName := ⟨RX0, "stepBack", "(III)I"⟩
abbrev cX0_sizeOfRingFrom : ByteArray := prog_2_method_8_code
def yX0_sizeOfRingFrom : MethodName := ⟨RX0, "sizeOfRingFrom", "(I)I"⟩
abbrev cX0_keepRing : ByteArray := prog_2_method_9_code
def yX0_keepRing : MethodName := ⟨RX0, "keepRing", "(II)V"⟩
abbrev cX0_lowestBehind : ByteArray := prog_2_method_10_code
def yX0_lowestBehind : MethodName := ⟨RX0, "lowestBehind", "(II)I"⟩
def RX1 : String := "StuckHands$Picture"
def TX1 : u_T := fun k => match k with
  | 0 => ("StuckHands$Picture", "tick", "I", true)
  | 1 => ("StuckHands$Picture", "rows", "[LStuckHands$Row;", true)
  | 2 => ("StuckHands$Picture", "holders", "[I", true)
  | 3 => ("StuckHands$Picture", "chains", "[I", true)
  | 4 => ("StuckHands$Picture", "chainLocks", "[I", true)
  | 5 => ("StuckHands$Picture", "distances", "[B", true)
  | 6 => ("StuckHands$Picture", "costs", "[I", true)
  | 7 => ("StuckHands$Picture", "tornAt", "I", false)
  | 8 => ("StuckHands$Picture", "threadCount", "I", false)
  | 9 => ("StuckHands$Picture", "waitingCount", "I", false)
  | _ => ("StuckHands$Picture", "heldCount", "I", false)
def tyX1 : Nat → FieldType := fun k => match k with
  | 0 => .int
  | 1 => .array (.object "StuckHands$Row")
  | 2 => .array .int
  | 3 => .array .int
  | 4 => .array .int
  | 5 => .array .byte
  | 6 => .array .int
  | 7 => .int
  | 8 => .int
  | 9 => .int
  | _ => .int
abbrev wsX10 : List Cond := u_ws RX1 TX1 11
theorem nmX1 : ∀ a, a < 11 → ∀ b, b < 11 → a ≠ b → (TX1 a).2.1 ≠ (TX1 b).2.1 := by decide +kernel
theorem tyX1_ok : ∀ k, k < 11 → parseFieldDescriptor (TX1 k).2.2.1 = some (tyX1 k) := by decide +kernel
abbrev cX1_init : ByteArray := prog_3_method_1_code
def yX1_init : MethodName := ⟨RX1, "<init>", "(I)V"⟩
abbrev cX1_keep : ByteArray := prog_3_method_2_code
def yX1_keep : MethodName := ⟨RX1, "keep", "(LStuckHands$Row;)V"⟩
abbrev cX1_measureFrom : ByteArray := prog_3_method_3_code
def yX1_measureFrom : MethodName := ⟨RX1, "measureFrom", "(LStuckHands$Row;)V"⟩
abbrev cX1_rowOf : ByteArray := prog_3_method_4_code
def yX1_rowOf : MethodName := ⟨RX1, "rowOf", "(I)LStuckHands$Row;"⟩
abbrev cX1_holderOf : ByteArray := prog_3_method_5_code
def yX1_holderOf : MethodName := ⟨RX1, "holderOf", "(I)I"⟩
abbrev cX1_awaitedBy : ByteArray := prog_3_method_6_code
def yX1_awaitedBy : MethodName := ⟨RX1, "awaitedBy", "(I)I"⟩
abbrev cX1_countRings : ByteArray := prog_3_method_7_code
def yX1_countRings : MethodName := ⟨RX1, "countRings", "()I"⟩
abbrev cX1_sizeOfRingFrom : ByteArray := prog_3_method_8_code
def yX1_sizeOfRingFrom : MethodName := ⟨RX1, "sizeOfRingFrom", "(I)I"⟩
abbrev cX1_threadOfRing : ByteArray := prog_3_method_9_code
def yX1_threadOfRing : MethodName := ⟨RX1, "threadOfRing", "(II)I"⟩
abbrev cX1_walkFrom : ByteArray := prog_3_method_10_code
def yX1_walkFrom : MethodName := ⟨RX1, "walkFrom", "(II)I"⟩
abbrev cX1_footOf : ByteArray := prog_3_method_11_code
def yX1_footOf : MethodName := ⟨RX1, "footOf", "(I)I"⟩
abbrev cX1_followChains : ByteArray := prog_3_method_12_code
def yX1_followChains : MethodName := ⟨RX1, "followChains", "()V"⟩
abbrev cX1_followChainOf : ByteArray := prog_3_method_13_code
def yX1_followChainOf : MethodName := ⟨RX1, "followChainOf", "(I)V"⟩
abbrev cX1_countThroughThread : ByteArray := prog_3_method_14_code
def yX1_countThroughThread : MethodName := ⟨RX1, "countThroughThread", "(I)I"⟩
abbrev cX1_countThroughLock : ByteArray := prog_3_method_15_code
def yX1_countThroughLock : MethodName := ⟨RX1, "countThroughLock", "(I)I"⟩
abbrev cX1_guiltyLock : ByteArray := prog_3_method_16_code
def yX1_guiltyLock : MethodName := ⟨RX1, "guiltyLock", "()I"⟩
abbrev cX1_distanceOf : ByteArray := prog_3_method_17_code
def yX1_distanceOf : MethodName := ⟨RX1, "distanceOf", "(II)I"⟩
abbrev cX1_countHeaps : ByteArray := prog_3_method_18_code
def yX1_countHeaps : MethodName := ⟨RX1, "countHeaps", "(I)I"⟩
abbrev cX1_heapOf : ByteArray := prog_3_method_19_code
def yX1_heapOf : MethodName := ⟨RX1, "heapOf", "(II)I"⟩
abbrev cX1_neighboursOf : ByteArray := prog_3_method_20_code
def yX1_neighboursOf : MethodName := ⟨RX1, "neighboursOf", "(II)I"⟩
def RX2 : String := "StuckHands$Row"
def TX2 : u_T := fun k => match k with
  | 0 => ("StuckHands$Row", "calls", "[B", true)
  | 1 => ("StuckHands$Row", "thread", "I", false)
  | 2 => ("StuckHands$Row", "state", "I", false)
  | 3 => ("StuckHands$Row", "counter", "I", false)
  | 4 => ("StuckHands$Row", "held", "I", false)
  | 5 => ("StuckHands$Row", "waitsAt", "I", false)
  | _ => ("StuckHands$Row", "callCount", "I", false)
def tyX2 : Nat → FieldType := fun k => match k with
  | 0 => .array .byte
  | 1 => .int
  | 2 => .int
  | 3 => .int
  | 4 => .int
  | 5 => .int
  | _ => .int
abbrev wsX20 : List Cond := u_ws RX2 TX2 7
theorem nmX2 : ∀ a, a < 7 → ∀ b, b < 7 → a ≠ b → (TX2 a).2.1 ≠ (TX2 b).2.1 := by decide +kernel
theorem tyX2_ok : ∀ k, k < 7 → parseFieldDescriptor (TX2 k).2.2.1 = some (tyX2 k) := by decide +kernel
abbrev cX2_init : ByteArray := prog_4_method_1_code
def yX2_init : MethodName := ⟨RX2, "<init>", "()V"⟩
abbrev cX2_addCall : ByteArray := prog_4_method_2_code
def yX2_addCall : MethodName := ⟨RX2, "addCall", "(I)V"⟩
abbrev cX2_callAt : ByteArray := prog_4_method_3_code
def yX2_callAt : MethodName := ⟨RX2, "callAt", "(I)I"⟩
abbrev cX2_holds : ByteArray := prog_4_method_4_code
def yX2_holds : MethodName := ⟨RX2, "holds", "(I)Z"⟩
abbrev cX2_isWaiting : ByteArray := prog_4_method_5_code
def yX2_isWaiting : MethodName := ⟨RX2, "isWaiting", "()Z"⟩
abbrev cX2_waitsAtBit : ByteArray := prog_4_method_6_code
def yX2_waitsAtBit : MethodName := ⟨RX2, "waitsAtBit", "()I"⟩
abbrev cX2_isLike : ByteArray := prog_4_method_7_code
def yX2_isLike : MethodName := ⟨RX2, "isLike", "(LStuckHands$Row;)Z"⟩
abbrev cX2_hasCallsOf : ByteArray := prog_4_method_8_code
def yX2_hasCallsOf : MethodName := ⟨RX2, "hasCallsOf", "(LStuckHands$Row;)Z"⟩
abbrev cX2_distanceTo : ByteArray := prog_4_method_9_code
def yX2_distanceTo : MethodName := ⟨RX2, "distanceTo", "(LStuckHands$Row;[I)I"⟩
def RX3 : String := "StuckHands$RowReader"
def TX3 : u_T := fun k => match k with
  | 0 => ("StuckHands$RowReader", "tape", "LStuckHands$Tape;", true)
  | _ => ("StuckHands$RowReader", "picture", "LStuckHands$Picture;", true)
def tyX3 : Nat → FieldType := fun k => match k with
  | 0 => .object "StuckHands$Tape"
  | _ => .object "StuckHands$Picture"
abbrev wsX30 : List Cond := u_ws RX3 TX3 2
theorem nmX3 : ∀ a, a < 2 → ∀ b, b < 2 → a ≠ b → (TX3 a).2.1 ≠ (TX3 b).2.1 := by decide +kernel
theorem tyX3_ok : ∀ k, k < 2 → parseFieldDescriptor (TX3 k).2.2.1 = some (tyX3 k) := by decide +kernel
abbrev cX3_init : ByteArray := prog_5_method_1_code
def yX3_init : MethodName := ⟨RX3, "<init>", "(LStuckHands$Tape;LStuckHands$Picture;)V"⟩
abbrev cX3_readRows : ByteArray := prog_5_method_2_code
def yX3_readRows : MethodName := ⟨RX3, "readRows", "()V"⟩
abbrev cX3_readRow : ByteArray := prog_5_method_3_code
def yX3_readRow : MethodName := ⟨RX3, "readRow", "(LStuckHands$Row;)Z"⟩
abbrev cX3_readThread : ByteArray := prog_5_method_4_code
def yX3_readThread : MethodName := ⟨RX3, "readThread", "(LStuckHands$Row;)Z"⟩
abbrev cX3_readState : ByteArray := prog_5_method_5_code
def yX3_readState : MethodName := ⟨RX3, "readState", "(LStuckHands$Row;)Z"⟩
abbrev cX3_readCounter : ByteArray := prog_5_method_6_code
def yX3_readCounter : MethodName := ⟨RX3, "readCounter", "(LStuckHands$Row;)Z"⟩
abbrev cX3_readHeld : ByteArray := prog_5_method_7_code
def yX3_readHeld : MethodName := ⟨RX3, "readHeld", "(LStuckHands$Row;)Z"⟩
abbrev cX3_readHeldLock : ByteArray := prog_5_method_8_code
def yX3_readHeldLock : MethodName := ⟨RX3, "readHeldLock", "(LStuckHands$Row;)Z"⟩
abbrev cX3_readWait : ByteArray := prog_5_method_9_code
def yX3_readWait : MethodName := ⟨RX3, "readWait", "(LStuckHands$Row;)Z"⟩
abbrev cX3_readCalls : ByteArray := prog_5_method_10_code
def yX3_readCalls : MethodName := ⟨RX3, "readCalls", "(LStuckHands$Row;)Z"⟩
def RX4 : String := "StuckHands$Tape"
def TX4 : u_T := fun k => match k with
  | 0 => ("StuckHands$Tape", "bytes", "[B", true)
  | 1 => ("StuckHands$Tape", "length", "I", false)
  | 2 => ("StuckHands$Tape", "textLength", "I", false)
  | _ => ("StuckHands$Tape", "at", "I", false)
def tyX4 : Nat → FieldType := fun k => match k with
  | 0 => .array .byte
  | 1 => .int
  | 2 => .int
  | _ => .int
abbrev wsX40 : List Cond := u_ws RX4 TX4 4
theorem nmX4 : ∀ a, a < 4 → ∀ b, b < 4 → a ≠ b → (TX4 a).2.1 ≠ (TX4 b).2.1 := by decide +kernel
theorem tyX4_ok : ∀ k, k < 4 → parseFieldDescriptor (TX4 k).2.2.1 = some (tyX4 k) := by decide +kernel
abbrev cX4_init : ByteArray := prog_6_method_1_code
def yX4_init : MethodName := ⟨RX4, "<init>", "()V"⟩
abbrev cX4_append : ByteArray := prog_6_method_2_code
def yX4_append : MethodName := ⟨RX4, "append", "(I)V"⟩
abbrev cX4_openText : ByteArray := prog_6_method_3_code
def yX4_openText : MethodName := ⟨RX4, "openText", "(I)V"⟩
abbrev cX4_next : ByteArray := prog_6_method_4_code
def yX4_next : MethodName := ⟨RX4, "next", "()I"⟩
abbrev cX4_isAtEndOfPart : ByteArray := prog_6_method_5_code
def yX4_isAtEndOfPart : MethodName := ⟨RX4, "isAtEndOfPart", "()Z"⟩
abbrev cX4_take : ByteArray := prog_6_method_6_code
def yX4_take : MethodName := ⟨RX4, "take", "(C)Z"⟩
abbrev cX4_takeNumber : ByteArray := prog_6_method_7_code
def yX4_takeNumber : MethodName := ⟨RX4, "takeNumber", "(II)I"⟩
abbrev cX4_tearAt : ByteArray := prog_6_method_8_code
def yX4_tearAt : MethodName := ⟨RX4, "tearAt", "(I)I"⟩
abbrev cX4_readHead : ByteArray := prog_6_method_9_code
def yX4_readHead : MethodName := ⟨RX4, "readHead", "()I"⟩
def RX5 : String := "StuckHands"
def TX5 : u_T := fun k => match k with
  | 0 => ("StuckHands", "tape", "LStuckHands$Tape;", true)
  | 1 => ("StuckHands", "pictures", "[LStuckHands$Picture;", true)
  | 2 => ("StuckHands", "lockOrder", "LStuckHands$LockOrder;", true)
  | 3 => ("StuckHands", "pictureCount", "I", false)
  | 4 => ("StuckHands", "counterRound", "I", false)
  | _ => ("StuckHands", "mostInATick", "I", false)
def tyX5 : Nat → FieldType := fun k => match k with
  | 0 => .object "StuckHands$Tape"
  | 1 => .array (.object "StuckHands$Picture")
  | 2 => .object "StuckHands$LockOrder"
  | 3 => .int
  | 4 => .int
  | _ => .int
abbrev wsX50 : List Cond := u_ws RX5 TX5 6
theorem nmX5 : ∀ a, a < 6 → ∀ b, b < 6 → a ≠ b → (TX5 a).2.1 ≠ (TX5 b).2.1 := by decide +kernel
theorem tyX5_ok : ∀ k, k < 6 → parseFieldDescriptor (TX5 k).2.2.1 = some (tyX5 k) := by decide +kernel
abbrev cX5_init : ByteArray := prog_1_method_1_code
def yX5_init : MethodName := ⟨RX5, "<init>", "()V"⟩
abbrev cX5_feed : ByteArray := prog_1_method_2_code
def yX5_feed : MethodName := ⟨RX5, "feed", "(IIIII)I"⟩
abbrev cX5_picture : ByteArray := prog_1_method_3_code
def yX5_picture : MethodName := ⟨RX5, "picture", "(I)I"⟩
abbrev cX5_torn : ByteArray := prog_1_method_4_code
def yX5_torn : MethodName := ⟨RX5, "torn", "(I)I"⟩
abbrev cX5_look : ByteArray := prog_1_method_5_code
def yX5_look : MethodName := ⟨RX5, "look", "(III)I"⟩
abbrev cX5_holder : ByteArray := prog_1_method_6_code
def yX5_holder : MethodName := ⟨RX5, "holder", "(II)I"⟩
abbrev cX5_rings : ByteArray := prog_1_method_7_code
def yX5_rings : MethodName := ⟨RX5, "rings", "(I)I"⟩
abbrev cX5_ring : ByteArray := prog_1_method_8_code
def yX5_ring : MethodName := ⟨RX5, "ring", "(III)I"⟩
abbrev cX5_foot : ByteArray := prog_1_method_9_code
def yX5_foot : MethodName := ⟨RX5, "foot", "(II)I"⟩
abbrev cX5_through : ByteArray := prog_1_method_10_code
def yX5_through : MethodName := ⟨RX5, "through", "(II)I"⟩
abbrev cX5_weight : ByteArray := prog_1_method_11_code
def yX5_weight : MethodName := ⟨RX5, "weight", "(II)I"⟩
abbrev cX5_guilty : ByteArray := prog_1_method_12_code
def yX5_guilty : MethodName := ⟨RX5, "guilty", "(I)I"⟩
abbrev cX5_stuck : ByteArray := prog_1_method_13_code
def yX5_stuck : MethodName := ⟨RX5, "stuck", "(I)I"⟩
abbrev cX5_broken : ByteArray := prog_1_method_14_code
def yX5_broken : MethodName := ⟨RX5, "broken", "(I)I"⟩
abbrev cX5_meter : ByteArray := prog_1_method_15_code
def yX5_meter : MethodName := ⟨RX5, "meter", "(II)Z"⟩
abbrev cX5_work : ByteArray := prog_1_method_16_code
def yX5_work : MethodName := ⟨RX5, "work", "(IIII)I"⟩
abbrev cX5_distance : ByteArray := prog_1_method_17_code
def yX5_distance : MethodName := ⟨RX5, "distance", "(III)I"⟩
abbrev cX5_heaps : ByteArray := prog_1_method_18_code
def yX5_heaps : MethodName := ⟨RX5, "heaps", "(II)I"⟩
abbrev cX5_heap : ByteArray := prog_1_method_19_code
def yX5_heap : MethodName := ⟨RX5, "heap", "(III)I"⟩
abbrev cX5_order : ByteArray := prog_1_method_20_code
def yX5_order : MethodName := ⟨RX5, "order", "(I)I"⟩
abbrev cX5_count : ByteArray := prog_1_method_21_code
def yX5_count : MethodName := ⟨RX5, "count", "(II)I"⟩
abbrev cX5_workBetween : ByteArray := prog_1_method_22_code
def yX5_workBetween : MethodName := ⟨RX5, "workBetween", "(LStuckHands$Picture;LStuckHands$Picture;II)I"⟩
abbrev cX5_countOfReader : ByteArray := prog_1_method_23_code
def yX5_countOfReader : MethodName := ⟨RX5, "countOfReader", "(I)I"⟩
abbrev cX5_pictureAt : ByteArray := prog_1_method_24_code
def yX5_pictureAt : MethodName := ⟨RX5, "pictureAt", "(I)LStuckHands$Picture;"⟩
abbrev cX5_rowAt : ByteArray := prog_1_method_25_code
def yX5_rowAt : MethodName := ⟨RX5, "rowAt", "(II)LStuckHands$Row;"⟩
abbrev cX5_isTickTaken : ByteArray := prog_1_method_26_code
def yX5_isTickTaken : MethodName := ⟨RX5, "isTickTaken", "(I)Z"⟩
abbrev cX5_countAhead : ByteArray := prog_1_method_27_code
def yX5_countAhead : MethodName := ⟨RX5, "countAhead", "(I)I"⟩
abbrev cX5_isStuck : ByteArray := prog_1_method_28_code
def yX5_isStuck : MethodName := ⟨RX5, "isStuck", "(I)Z"⟩
abbrev cX5_isThread : ByteArray := prog_1_method_29_code
def yX5_isThread : MethodName := ⟨RX5, "isThread", "(I)Z"⟩
abbrev cX5_isLock : ByteArray := prog_1_method_30_code
def yX5_isLock : MethodName := ⟨RX5, "isLock", "(I)Z"⟩
abbrev cX5_isHeapWidth : ByteArray := prog_1_method_31_code
def yX5_isHeapWidth : MethodName := ⟨RX5, "isHeapWidth", "(I)Z"⟩
abbrev cX5_isDigit : ByteArray := prog_1_method_32_code
def yX5_isDigit : MethodName := ⟨RX5, "isDigit", "(I)Z"⟩
abbrev cX5_isLetter : ByteArray := prog_1_method_33_code
def yX5_isLetter : MethodName := ⟨RX5, "isLetter", "(I)Z"⟩
abbrev cX5_hasBit : ByteArray := prog_1_method_34_code
def yX5_hasBit : MethodName := ⟨RX5, "hasBit", "(II)Z"⟩
abbrev cX5_lowestOf : ByteArray := prog_1_method_35_code
def yX5_lowestOf : MethodName := ⟨RX5, "lowestOf", "(I)I"⟩
def RX6 : String := "StuckHandsModel"
def TX6 : u_T := fun k => match k with
  | 0 => ("StuckHandsModel", "tape", "[B", true)
  | 1 => ("StuckHandsModel", "taped", "I", false)
  | 2 => ("StuckHandsModel", "pictures", "I", false)
  | 3 => ("StuckHandsModel", "round", "I", false)
  | 4 => ("StuckHandsModel", "fast", "I", false)
  | 5 => ("StuckHandsModel", "tick", "[I", true)
  | 6 => ("StuckHandsModel", "torn", "[I", true)
  | 7 => ("StuckHandsModel", "is", "[Z", true)
  | 8 => ("StuckHandsModel", "state", "[I", true)
  | 9 => ("StuckHandsModel", "counter", "[I", true)
  | 10 => ("StuckHandsModel", "held", "[I", true)
  | 11 => ("StuckHandsModel", "waits", "[I", true)
  | 12 => ("StuckHandsModel", "many", "[I", true)
  | 13 => ("StuckHandsModel", "calls", "[B", true)
  | 14 => ("StuckHandsModel", "at", "I", false)
  | 15 => ("StuckHandsModel", "size", "I", false)
  | 16 => ("StuckHandsModel", "bad", "I", false)
  | 17 => ("StuckHandsModel", "first", "I", false)
  | 18 => ("StuckHandsModel", "rowThread", "I", false)
  | 19 => ("StuckHandsModel", "rowState", "I", false)
  | 20 => ("StuckHandsModel", "rowCounter", "I", false)
  | 21 => ("StuckHandsModel", "rowHeld", "I", false)
  | 22 => ("StuckHandsModel", "rowWaits", "I", false)
  | 23 => ("StuckHandsModel", "rowMany", "I", false)
  | 24 => ("StuckHandsModel", "rowCalls", "[B", true)
  | 25 => ("StuckHandsModel", "ahead", "[I", true)
  | 26 => ("StuckHandsModel", "far", "[I", true)
  | 27 => ("StuckHandsModel", "row", "[I", true)
  | 28 => ("StuckHandsModel", "rowLong", "I", false)
  | 29 => ("StuckHandsModel", "cost", "[I", true)
  | _ => ("StuckHandsModel", "lowest", "[I", true)
def tyX6 : Nat → FieldType := fun k => match k with
  | 0 => .array .byte
  | 1 => .int
  | 2 => .int
  | 3 => .int
  | 4 => .int
  | 5 => .array .int
  | 6 => .array .int
  | 7 => .array .boolean
  | 8 => .array .int
  | 9 => .array .int
  | 10 => .array .int
  | 11 => .array .int
  | 12 => .array .int
  | 13 => .array .byte
  | 14 => .int
  | 15 => .int
  | 16 => .int
  | 17 => .int
  | 18 => .int
  | 19 => .int
  | 20 => .int
  | 21 => .int
  | 22 => .int
  | 23 => .int
  | 24 => .array .byte
  | 25 => .array .int
  | 26 => .array .int
  | 27 => .array .int
  | 28 => .int
  | 29 => .array .int
  | _ => .array .int
abbrev wsX60 : List Cond := u_ws RX6 TX6 31
theorem nmX6 : ∀ a, a < 31 → ∀ b, b < 31 → a ≠ b → (TX6 a).2.1 ≠ (TX6 b).2.1 := by decide +kernel
theorem tyX6_ok : ∀ k, k < 31 → parseFieldDescriptor (TX6 k).2.2.1 = some (tyX6 k) := by decide +kernel
abbrev cX6_init : ByteArray := prog_8_method_1_code
def yX6_init : MethodName := ⟨RX6, "<init>", "()V"⟩
abbrev cX6_lies : ByteArray := prog_8_method_2_code
def yX6_lies : MethodName := ⟨RX6, "lies", "(III)Z"⟩
abbrev cX6_push : ByteArray := prog_8_method_3_code
def yX6_push : MethodName := ⟨RX6, "push", "(I)V"⟩
abbrev cX6_feed : ByteArray := prog_8_method_4_code
def yX6_feed : MethodName := ⟨RX6, "feed", "(IIIII)I"⟩
abbrev cX6_here : ByteArray := prog_8_method_5_code
def yX6_here : MethodName := ⟨RX6, "here", "()I"⟩
abbrev cX6_seesDigit : ByteArray := prog_8_method_6_code
def yX6_seesDigit : MethodName := ⟨RX6, "seesDigit", "()Z"⟩
abbrev cX6_tears : ByteArray := prog_8_method_7_code
def yX6_tears : MethodName := ⟨RX6, "tears", "(I)V"⟩
abbrev cX6_number : ByteArray := prog_8_method_8_code
def yX6_number : MethodName := ⟨RX6, "number", "(II)I"⟩
abbrev cX6_heldBy : ByteArray := prog_8_method_9_code
def yX6_heldBy : MethodName := ⟨RX6, "heldBy", "(I)I"⟩
abbrev cX6_readLocks : ByteArray := prog_8_method_10_code
def yX6_readLocks : MethodName := ⟨RX6, "readLocks", "(I)V"⟩
abbrev cX6_readCalls : ByteArray := prog_8_method_11_code
def yX6_readCalls : MethodName := ⟨RX6, "readCalls", "()V"⟩
abbrev cX6_stateOf : ByteArray := prog_8_method_12_code
def yX6_stateOf : MethodName := ⟨RX6, "stateOf", "(I)I"⟩
abbrev cX6_readRow : ByteArray := prog_8_method_13_code
def yX6_readRow : MethodName := ⟨RX6, "readRow", "(I)V"⟩
abbrev cX6_stands : ByteArray := prog_8_method_14_code
def yX6_stands : MethodName := ⟨RX6, "stands", "(I)V"⟩
abbrev cX6_picture : ByteArray := prog_8_method_15_code
def yX6_picture : MethodName := ⟨RX6, "picture", "(I)I"⟩
abbrev cX6_isPicture : ByteArray := prog_8_method_16_code
def yX6_isPicture : MethodName := ⟨RX6, "isPicture", "(I)Z"⟩
abbrev cX6_isThere : ByteArray := prog_8_method_17_code
def yX6_isThere : MethodName := ⟨RX6, "isThere", "(II)Z"⟩
abbrev cX6_torn : ByteArray := prog_8_method_18_code
def yX6_torn : MethodName := ⟨RX6, "torn", "(I)I"⟩
abbrev cX6_look : ByteArray := prog_8_method_19_code
def yX6_look : MethodName := ⟨RX6, "look", "(III)I"⟩
abbrev cX6_holderOf : ByteArray := prog_8_method_20_code
def yX6_holderOf : MethodName := ⟨RX6, "holderOf", "(II)I"⟩
abbrev cX6_holder : ByteArray := prog_8_method_21_code
def yX6_holder : MethodName := ⟨RX6, "holder", "(II)I"⟩
abbrev cX6_next : ByteArray := prog_8_method_22_code
def yX6_next : MethodName := ⟨RX6, "next", "(II)I"⟩
abbrev cX6_after : ByteArray := prog_8_method_23_code
def yX6_after : MethodName := ⟨RX6, "after", "(III)I"⟩
abbrev cX6_back : ByteArray := prog_8_method_24_code
def yX6_back : MethodName := ⟨RX6, "back", "(II)I"⟩
abbrev cX6_isLowest : ByteArray := prog_8_method_25_code
def yX6_isLowest : MethodName := ⟨RX6, "isLowest", "(II)Z"⟩
abbrev cX6_rings : ByteArray := prog_8_method_26_code
def yX6_rings : MethodName := ⟨RX6, "rings", "(I)I"⟩
abbrev cX6_ring : ByteArray := prog_8_method_27_code
def yX6_ring : MethodName := ⟨RX6, "ring", "(III)I"⟩
abbrev cX6_foot : ByteArray := prog_8_method_28_code
def yX6_foot : MethodName := ⟨RX6, "foot", "(II)I"⟩
abbrev cX6_comes : ByteArray := prog_8_method_29_code
def yX6_comes : MethodName := ⟨RX6, "comes", "(III)Z"⟩
abbrev cX6_through : ByteArray := prog_8_method_30_code
def yX6_through : MethodName := ⟨RX6, "through", "(II)I"⟩
abbrev cX6_weightOf : ByteArray := prog_8_method_31_code
def yX6_weightOf : MethodName := ⟨RX6, "weightOf", "(II)I"⟩
abbrev cX6_weight : ByteArray := prog_8_method_32_code
def yX6_weight : MethodName := ⟨RX6, "weight", "(II)I"⟩
abbrev cX6_guilty : ByteArray := prog_8_method_33_code
def yX6_guilty : MethodName := ⟨RX6, "guilty", "(I)I"⟩
abbrev cX6_areAlike : ByteArray := prog_8_method_34_code
def yX6_areAlike : MethodName := ⟨RX6, "areAlike", "(II)Z"⟩
abbrev cX6_isStuck : ByteArray := prog_8_method_35_code
def yX6_isStuck : MethodName := ⟨RX6, "isStuck", "(I)Z"⟩
abbrev cX6_stuck : ByteArray := prog_8_method_36_code
def yX6_stuck : MethodName := ⟨RX6, "stuck", "(I)I"⟩
abbrev cX6_aheads : ByteArray := prog_8_method_37_code
def yX6_aheads : MethodName := ⟨RX6, "aheads", "()V"⟩
abbrev cX6_measures : ByteArray := prog_8_method_38_code
def yX6_measures : MethodName := ⟨RX6, "measures", "(I)I"⟩
abbrev cX6_breaks : ByteArray := prog_8_method_39_code
def yX6_breaks : MethodName := ⟨RX6, "breaks", "()V"⟩
abbrev cX6_broken : ByteArray := prog_8_method_40_code
def yX6_broken : MethodName := ⟨RX6, "broken", "(I)I"⟩
abbrev cX6_meter : ByteArray := prog_8_method_41_code
def yX6_meter : MethodName := ⟨RX6, "meter", "(II)Z"⟩
abbrev cX6_work : ByteArray := prog_8_method_42_code
def yX6_work : MethodName := ⟨RX6, "work", "(IIII)I"⟩
abbrev cX6_least : ByteArray := prog_8_method_43_code
def yX6_least : MethodName := ⟨RX6, "least", "(II)I"⟩
abbrev cX6_distanceOf : ByteArray := prog_8_method_44_code
def yX6_distanceOf : MethodName := ⟨RX6, "distanceOf", "(II)I"⟩
abbrev cX6_distance : ByteArray := prog_8_method_45_code
def yX6_distance : MethodName := ⟨RX6, "distance", "(III)I"⟩
abbrev cX6_hangs : ByteArray := prog_8_method_46_code
def yX6_hangs : MethodName := ⟨RX6, "hangs", "(II)V"⟩
abbrev cX6_heaps : ByteArray := prog_8_method_47_code
def yX6_heaps : MethodName := ⟨RX6, "heaps", "(II)I"⟩
abbrev cX6_heap : ByteArray := prog_8_method_48_code
def yX6_heap : MethodName := ⟨RX6, "heap", "(III)I"⟩
abbrev cX6_order : ByteArray := prog_8_method_49_code
def yX6_order : MethodName := ⟨RX6, "order", "(I)I"⟩
abbrev cX6_count : ByteArray := prog_8_method_50_code
def yX6_count : MethodName := ⟨RX6, "count", "(II)I"⟩
def RJ9 : String := "java/lang/Math"
def TJ9 : u_T := fun k => match k with
  | _ => ("", "", "", false)
def tyJ9 : Nat → FieldType := fun k => match k with
  | _ => .int
abbrev wsJ90 : List Cond := u_ws RJ9 TJ9 0
theorem nmJ9 : ∀ a, a < 0 → ∀ b, b < 0 → a ≠ b → (TJ9 a).2.1 ≠ (TJ9 b).2.1 := by decide +kernel
theorem tyJ9_ok : ∀ k, k < 0 → parseFieldDescriptor (TJ9 k).2.2.1 = some (tyJ9 k) := by decide +kernel
abbrev cJ9_floorMod_7cf53 : ByteArray := prog_9_method_50_code
def yJ9_floorMod_7cf53 : MethodName := ⟨RJ9, "floorMod", "(II)I"⟩
abbrev cJ9_min_7cf53 : ByteArray := prog_9_method_69_code
def yJ9_min_7cf53 : MethodName := ⟨RJ9, "min", "(II)I"⟩
def RL : String := "StuckHandsLaw"
abbrev cL_law : ByteArray := code
def yL_law : MethodName := ⟨RL, "law", "([I)Z"⟩
abbrev vwCl : List vw_C := [(RX0, TX0, 4), (RX1, TX1, 11), (RX2, TX2, 7), (RX3, TX3, 2), (RX4, TX4, 4), (RX5, TX5, 6), (RX6, TX6, 31)]
end
section
theorem dL_law_0 : decode cL_law 0 = .ok (.new 7, 3) := by decide +kernel
theorem dL_law_3 : decode cL_law 3 = .ok (.dup, 1) := by decide +kernel
theorem dL_law_4 : decode cL_law 4 = .ok (.invokespecial 9, 3) := by decide +kernel
theorem dL_law_7 : decode cL_law 7 = .ok (.astore_n 1, 1) := by decide +kernel
theorem dL_law_8 : decode cL_law 8 = .ok (.new 10, 3) := by decide +kernel
theorem dL_law_11 : decode cL_law 11 = .ok (.dup, 1) := by decide +kernel
theorem dL_law_12 : decode cL_law 12 = .ok (.invokespecial 12, 3) := by decide +kernel
theorem dL_law_15 : decode cL_law 15 = .ok (.astore_n 2, 1) := by decide +kernel
theorem dL_law_16 : decode cL_law 16 = .ok (.iconst 0, 1) := by decide +kernel
theorem dL_law_17 : decode cL_law 17 = .ok (.istore_n 3, 1) := by decide +kernel
theorem dL_law_18 : decode cL_law 18 = .ok (.iload_n 3, 1) := by decide +kernel
theorem dL_law_19 : decode cL_law 19 = .ok (.aload_n 0, 1) := by decide +kernel
theorem dL_law_20 : decode cL_law 20 = .ok (.arraylength, 1) := by decide +kernel
theorem dL_law_21 : decode cL_law 21 = .ok (.bipush 6, 2) := by decide +kernel
theorem dL_law_23 : decode cL_law 23 = .ok (.isub, 1) := by decide +kernel
theorem dL_law_24 : decode cL_law 24 = .ok (.if_icmp .gt 790, 3) := by decide +kernel
theorem dL_law_27 : decode cL_law 27 = .ok (.aload_n 0, 1) := by decide +kernel
theorem dL_law_28 : decode cL_law 28 = .ok (.iload_n 3, 1) := by decide +kernel
theorem dL_law_29 : decode cL_law 29 = .ok (.iaload, 1) := by decide +kernel
theorem dL_law_30 : decode cL_law 30 = .ok (.bipush 31, 2) := by decide +kernel
theorem dL_law_32 : decode cL_law 32 = .ok (.iand, 1) := by decide +kernel
theorem dL_law_33 : decode cL_law 33 = .ok (.tableswitch 775 0 19 #[95, 158, 181, 204, 247, 280, 303, 346, 379, 412, 445, 468, 491, 514, 547, 600, 643, 676, 719, 742], 95) := by decide +kernel
theorem dL_law_128 : decode cL_law 128 = .ok (.aload_n 1, 1) := by decide +kernel
theorem dL_law_129 : decode cL_law 129 = .ok (.aload_n 0, 1) := by decide +kernel
theorem dL_law_130 : decode cL_law 130 = .ok (.iload_n 3, 1) := by decide +kernel
theorem dL_law_131 : decode cL_law 131 = .ok (.iconst 1, 1) := by decide +kernel
theorem dL_law_132 : decode cL_law 132 = .ok (.iadd, 1) := by decide +kernel
theorem dL_law_133 : decode cL_law 133 = .ok (.iaload, 1) := by decide +kernel
theorem dL_law_134 : decode cL_law 134 = .ok (.aload_n 0, 1) := by decide +kernel
theorem dL_law_135 : decode cL_law 135 = .ok (.iload_n 3, 1) := by decide +kernel
theorem dL_law_136 : decode cL_law 136 = .ok (.iconst 2, 1) := by decide +kernel
theorem dL_law_137 : decode cL_law 137 = .ok (.iadd, 1) := by decide +kernel
theorem dL_law_138 : decode cL_law 138 = .ok (.iaload, 1) := by decide +kernel
theorem dL_law_139 : decode cL_law 139 = .ok (.aload_n 0, 1) := by decide +kernel
theorem dL_law_140 : decode cL_law 140 = .ok (.iload_n 3, 1) := by decide +kernel
theorem dL_law_141 : decode cL_law 141 = .ok (.iconst 3, 1) := by decide +kernel
theorem dL_law_142 : decode cL_law 142 = .ok (.iadd, 1) := by decide +kernel
theorem dL_law_143 : decode cL_law 143 = .ok (.iaload, 1) := by decide +kernel
theorem dL_law_144 : decode cL_law 144 = .ok (.aload_n 0, 1) := by decide +kernel
theorem dL_law_145 : decode cL_law 145 = .ok (.iload_n 3, 1) := by decide +kernel
theorem dL_law_146 : decode cL_law 146 = .ok (.iconst 4, 1) := by decide +kernel
theorem dL_law_147 : decode cL_law 147 = .ok (.iadd, 1) := by decide +kernel
theorem dL_law_148 : decode cL_law 148 = .ok (.iaload, 1) := by decide +kernel
theorem dL_law_149 : decode cL_law 149 = .ok (.aload_n 0, 1) := by decide +kernel
theorem dL_law_150 : decode cL_law 150 = .ok (.iload_n 3, 1) := by decide +kernel
theorem dL_law_151 : decode cL_law 151 = .ok (.iconst 5, 1) := by decide +kernel
theorem dL_law_152 : decode cL_law 152 = .ok (.iadd, 1) := by decide +kernel
theorem dL_law_153 : decode cL_law 153 = .ok (.iaload, 1) := by decide +kernel
theorem dL_law_154 : decode cL_law 154 = .ok (.invokevirtual 13, 3) := by decide +kernel
theorem dL_law_157 : decode cL_law 157 = .ok (.aload_n 2, 1) := by decide +kernel
theorem dL_law_158 : decode cL_law 158 = .ok (.aload_n 0, 1) := by decide +kernel
theorem dL_law_159 : decode cL_law 159 = .ok (.iload_n 3, 1) := by decide +kernel
theorem dL_law_160 : decode cL_law 160 = .ok (.iconst 1, 1) := by decide +kernel
theorem dL_law_161 : decode cL_law 161 = .ok (.iadd, 1) := by decide +kernel
theorem dL_law_162 : decode cL_law 162 = .ok (.iaload, 1) := by decide +kernel
theorem dL_law_163 : decode cL_law 163 = .ok (.aload_n 0, 1) := by decide +kernel
theorem dL_law_164 : decode cL_law 164 = .ok (.iload_n 3, 1) := by decide +kernel
theorem dL_law_165 : decode cL_law 165 = .ok (.iconst 2, 1) := by decide +kernel
theorem dL_law_166 : decode cL_law 166 = .ok (.iadd, 1) := by decide +kernel
theorem dL_law_167 : decode cL_law 167 = .ok (.iaload, 1) := by decide +kernel
theorem dL_law_168 : decode cL_law 168 = .ok (.aload_n 0, 1) := by decide +kernel
theorem dL_law_169 : decode cL_law 169 = .ok (.iload_n 3, 1) := by decide +kernel
theorem dL_law_170 : decode cL_law 170 = .ok (.iconst 3, 1) := by decide +kernel
theorem dL_law_171 : decode cL_law 171 = .ok (.iadd, 1) := by decide +kernel
theorem dL_law_172 : decode cL_law 172 = .ok (.iaload, 1) := by decide +kernel
theorem dL_law_173 : decode cL_law 173 = .ok (.aload_n 0, 1) := by decide +kernel
theorem dL_law_174 : decode cL_law 174 = .ok (.iload_n 3, 1) := by decide +kernel
theorem dL_law_175 : decode cL_law 175 = .ok (.iconst 4, 1) := by decide +kernel
theorem dL_law_176 : decode cL_law 176 = .ok (.iadd, 1) := by decide +kernel
theorem dL_law_177 : decode cL_law 177 = .ok (.iaload, 1) := by decide +kernel
theorem dL_law_178 : decode cL_law 178 = .ok (.aload_n 0, 1) := by decide +kernel
theorem dL_law_179 : decode cL_law 179 = .ok (.iload_n 3, 1) := by decide +kernel
theorem dL_law_180 : decode cL_law 180 = .ok (.iconst 5, 1) := by decide +kernel
theorem dL_law_181 : decode cL_law 181 = .ok (.iadd, 1) := by decide +kernel
theorem dL_law_182 : decode cL_law 182 = .ok (.iaload, 1) := by decide +kernel
theorem dL_law_183 : decode cL_law 183 = .ok (.invokevirtual 17, 3) := by decide +kernel
theorem dL_law_186 : decode cL_law 186 = .ok (.if_icmp .eq 622, 3) := by decide +kernel
theorem dL_law_189 : decode cL_law 189 = .ok (.iconst 0, 1) := by decide +kernel
theorem dL_law_190 : decode cL_law 190 = .ok (.ireturn, 1) := by decide +kernel
theorem dL_law_191 : decode cL_law 191 = .ok (.aload_n 1, 1) := by decide +kernel
theorem dL_law_192 : decode cL_law 192 = .ok (.aload_n 0, 1) := by decide +kernel
theorem dL_law_193 : decode cL_law 193 = .ok (.iload_n 3, 1) := by decide +kernel
theorem dL_law_194 : decode cL_law 194 = .ok (.iconst 1, 1) := by decide +kernel
theorem dL_law_195 : decode cL_law 195 = .ok (.iadd, 1) := by decide +kernel
theorem dL_law_196 : decode cL_law 196 = .ok (.iaload, 1) := by decide +kernel
theorem dL_law_197 : decode cL_law 197 = .ok (.invokevirtual 18, 3) := by decide +kernel
theorem dL_law_200 : decode cL_law 200 = .ok (.aload_n 2, 1) := by decide +kernel
theorem dL_law_201 : decode cL_law 201 = .ok (.aload_n 0, 1) := by decide +kernel
theorem dL_law_202 : decode cL_law 202 = .ok (.iload_n 3, 1) := by decide +kernel
theorem dL_law_203 : decode cL_law 203 = .ok (.iconst 1, 1) := by decide +kernel
theorem dL_law_204 : decode cL_law 204 = .ok (.iadd, 1) := by decide +kernel
theorem dL_law_205 : decode cL_law 205 = .ok (.iaload, 1) := by decide +kernel
theorem dL_law_206 : decode cL_law 206 = .ok (.invokevirtual 22, 3) := by decide +kernel
theorem dL_law_209 : decode cL_law 209 = .ok (.if_icmp .eq 599, 3) := by decide +kernel
theorem dL_law_212 : decode cL_law 212 = .ok (.iconst 0, 1) := by decide +kernel
theorem dL_law_213 : decode cL_law 213 = .ok (.ireturn, 1) := by decide +kernel
theorem dL_law_214 : decode cL_law 214 = .ok (.aload_n 1, 1) := by decide +kernel
theorem dL_law_215 : decode cL_law 215 = .ok (.aload_n 0, 1) := by decide +kernel
theorem dL_law_216 : decode cL_law 216 = .ok (.iload_n 3, 1) := by decide +kernel
theorem dL_law_217 : decode cL_law 217 = .ok (.iconst 1, 1) := by decide +kernel
theorem dL_law_218 : decode cL_law 218 = .ok (.iadd, 1) := by decide +kernel
theorem dL_law_219 : decode cL_law 219 = .ok (.iaload, 1) := by decide +kernel
theorem dL_law_220 : decode cL_law 220 = .ok (.invokevirtual 23, 3) := by decide +kernel
theorem dL_law_223 : decode cL_law 223 = .ok (.aload_n 2, 1) := by decide +kernel
theorem dL_law_224 : decode cL_law 224 = .ok (.aload_n 0, 1) := by decide +kernel
theorem dL_law_225 : decode cL_law 225 = .ok (.iload_n 3, 1) := by decide +kernel
theorem dL_law_226 : decode cL_law 226 = .ok (.iconst 1, 1) := by decide +kernel
theorem dL_law_227 : decode cL_law 227 = .ok (.iadd, 1) := by decide +kernel
theorem dL_law_228 : decode cL_law 228 = .ok (.iaload, 1) := by decide +kernel
theorem dL_law_229 : decode cL_law 229 = .ok (.invokevirtual 26, 3) := by decide +kernel
theorem dL_law_232 : decode cL_law 232 = .ok (.if_icmp .eq 576, 3) := by decide +kernel
theorem dL_law_235 : decode cL_law 235 = .ok (.iconst 0, 1) := by decide +kernel
theorem dL_law_236 : decode cL_law 236 = .ok (.ireturn, 1) := by decide +kernel
theorem dL_law_237 : decode cL_law 237 = .ok (.aload_n 1, 1) := by decide +kernel
theorem dL_law_238 : decode cL_law 238 = .ok (.aload_n 0, 1) := by decide +kernel
theorem dL_law_239 : decode cL_law 239 = .ok (.iload_n 3, 1) := by decide +kernel
theorem dL_law_240 : decode cL_law 240 = .ok (.iconst 1, 1) := by decide +kernel
theorem dL_law_241 : decode cL_law 241 = .ok (.iadd, 1) := by decide +kernel
theorem dL_law_242 : decode cL_law 242 = .ok (.iaload, 1) := by decide +kernel
theorem dL_law_243 : decode cL_law 243 = .ok (.aload_n 0, 1) := by decide +kernel
theorem dL_law_244 : decode cL_law 244 = .ok (.iload_n 3, 1) := by decide +kernel
theorem dL_law_245 : decode cL_law 245 = .ok (.iconst 2, 1) := by decide +kernel
theorem dL_law_246 : decode cL_law 246 = .ok (.iadd, 1) := by decide +kernel
theorem dL_law_247 : decode cL_law 247 = .ok (.iaload, 1) := by decide +kernel
theorem dL_law_248 : decode cL_law 248 = .ok (.aload_n 0, 1) := by decide +kernel
theorem dL_law_249 : decode cL_law 249 = .ok (.iload_n 3, 1) := by decide +kernel
theorem dL_law_250 : decode cL_law 250 = .ok (.iconst 3, 1) := by decide +kernel
theorem dL_law_251 : decode cL_law 251 = .ok (.iadd, 1) := by decide +kernel
theorem dL_law_252 : decode cL_law 252 = .ok (.iaload, 1) := by decide +kernel
theorem dL_law_253 : decode cL_law 253 = .ok (.invokevirtual 27, 3) := by decide +kernel
theorem dL_law_256 : decode cL_law 256 = .ok (.aload_n 2, 1) := by decide +kernel
theorem dL_law_257 : decode cL_law 257 = .ok (.aload_n 0, 1) := by decide +kernel
theorem dL_law_258 : decode cL_law 258 = .ok (.iload_n 3, 1) := by decide +kernel
theorem dL_law_259 : decode cL_law 259 = .ok (.iconst 1, 1) := by decide +kernel
theorem dL_law_260 : decode cL_law 260 = .ok (.iadd, 1) := by decide +kernel
theorem dL_law_261 : decode cL_law 261 = .ok (.iaload, 1) := by decide +kernel
theorem dL_law_262 : decode cL_law 262 = .ok (.aload_n 0, 1) := by decide +kernel
theorem dL_law_263 : decode cL_law 263 = .ok (.iload_n 3, 1) := by decide +kernel
theorem dL_law_264 : decode cL_law 264 = .ok (.iconst 2, 1) := by decide +kernel
theorem dL_law_265 : decode cL_law 265 = .ok (.iadd, 1) := by decide +kernel
theorem dL_law_266 : decode cL_law 266 = .ok (.iaload, 1) := by decide +kernel
theorem dL_law_267 : decode cL_law 267 = .ok (.aload_n 0, 1) := by decide +kernel
theorem dL_law_268 : decode cL_law 268 = .ok (.iload_n 3, 1) := by decide +kernel
theorem dL_law_269 : decode cL_law 269 = .ok (.iconst 3, 1) := by decide +kernel
theorem dL_law_270 : decode cL_law 270 = .ok (.iadd, 1) := by decide +kernel
theorem dL_law_271 : decode cL_law 271 = .ok (.iaload, 1) := by decide +kernel
theorem dL_law_272 : decode cL_law 272 = .ok (.invokevirtual 31, 3) := by decide +kernel
theorem dL_law_275 : decode cL_law 275 = .ok (.if_icmp .eq 533, 3) := by decide +kernel
theorem dL_law_278 : decode cL_law 278 = .ok (.iconst 0, 1) := by decide +kernel
theorem dL_law_279 : decode cL_law 279 = .ok (.ireturn, 1) := by decide +kernel
theorem dL_law_280 : decode cL_law 280 = .ok (.aload_n 1, 1) := by decide +kernel
theorem dL_law_281 : decode cL_law 281 = .ok (.aload_n 0, 1) := by decide +kernel
theorem dL_law_282 : decode cL_law 282 = .ok (.iload_n 3, 1) := by decide +kernel
theorem dL_law_283 : decode cL_law 283 = .ok (.iconst 1, 1) := by decide +kernel
theorem dL_law_284 : decode cL_law 284 = .ok (.iadd, 1) := by decide +kernel
theorem dL_law_285 : decode cL_law 285 = .ok (.iaload, 1) := by decide +kernel
theorem dL_law_286 : decode cL_law 286 = .ok (.aload_n 0, 1) := by decide +kernel
theorem dL_law_287 : decode cL_law 287 = .ok (.iload_n 3, 1) := by decide +kernel
theorem dL_law_288 : decode cL_law 288 = .ok (.iconst 2, 1) := by decide +kernel
theorem dL_law_289 : decode cL_law 289 = .ok (.iadd, 1) := by decide +kernel
theorem dL_law_290 : decode cL_law 290 = .ok (.iaload, 1) := by decide +kernel
theorem dL_law_291 : decode cL_law 291 = .ok (.invokevirtual 32, 3) := by decide +kernel
theorem dL_law_294 : decode cL_law 294 = .ok (.aload_n 2, 1) := by decide +kernel
theorem dL_law_295 : decode cL_law 295 = .ok (.aload_n 0, 1) := by decide +kernel
theorem dL_law_296 : decode cL_law 296 = .ok (.iload_n 3, 1) := by decide +kernel
theorem dL_law_297 : decode cL_law 297 = .ok (.iconst 1, 1) := by decide +kernel
theorem dL_law_298 : decode cL_law 298 = .ok (.iadd, 1) := by decide +kernel
theorem dL_law_299 : decode cL_law 299 = .ok (.iaload, 1) := by decide +kernel
theorem dL_law_300 : decode cL_law 300 = .ok (.aload_n 0, 1) := by decide +kernel
theorem dL_law_301 : decode cL_law 301 = .ok (.iload_n 3, 1) := by decide +kernel
theorem dL_law_302 : decode cL_law 302 = .ok (.iconst 2, 1) := by decide +kernel
theorem dL_law_303 : decode cL_law 303 = .ok (.iadd, 1) := by decide +kernel
theorem dL_law_304 : decode cL_law 304 = .ok (.iaload, 1) := by decide +kernel
theorem dL_law_305 : decode cL_law 305 = .ok (.invokevirtual 36, 3) := by decide +kernel
theorem dL_law_308 : decode cL_law 308 = .ok (.if_icmp .eq 500, 3) := by decide +kernel
theorem dL_law_311 : decode cL_law 311 = .ok (.iconst 0, 1) := by decide +kernel
theorem dL_law_312 : decode cL_law 312 = .ok (.ireturn, 1) := by decide +kernel
theorem dL_law_313 : decode cL_law 313 = .ok (.aload_n 1, 1) := by decide +kernel
theorem dL_law_314 : decode cL_law 314 = .ok (.aload_n 0, 1) := by decide +kernel
theorem dL_law_315 : decode cL_law 315 = .ok (.iload_n 3, 1) := by decide +kernel
theorem dL_law_316 : decode cL_law 316 = .ok (.iconst 1, 1) := by decide +kernel
theorem dL_law_317 : decode cL_law 317 = .ok (.iadd, 1) := by decide +kernel
theorem dL_law_318 : decode cL_law 318 = .ok (.iaload, 1) := by decide +kernel
theorem dL_law_319 : decode cL_law 319 = .ok (.invokevirtual 37, 3) := by decide +kernel
theorem dL_law_322 : decode cL_law 322 = .ok (.aload_n 2, 1) := by decide +kernel
theorem dL_law_323 : decode cL_law 323 = .ok (.aload_n 0, 1) := by decide +kernel
theorem dL_law_324 : decode cL_law 324 = .ok (.iload_n 3, 1) := by decide +kernel
theorem dL_law_325 : decode cL_law 325 = .ok (.iconst 1, 1) := by decide +kernel
theorem dL_law_326 : decode cL_law 326 = .ok (.iadd, 1) := by decide +kernel
theorem dL_law_327 : decode cL_law 327 = .ok (.iaload, 1) := by decide +kernel
theorem dL_law_328 : decode cL_law 328 = .ok (.invokevirtual 40, 3) := by decide +kernel
theorem dL_law_331 : decode cL_law 331 = .ok (.if_icmp .eq 477, 3) := by decide +kernel
theorem dL_law_334 : decode cL_law 334 = .ok (.iconst 0, 1) := by decide +kernel
theorem dL_law_335 : decode cL_law 335 = .ok (.ireturn, 1) := by decide +kernel
theorem dL_law_336 : decode cL_law 336 = .ok (.aload_n 1, 1) := by decide +kernel
theorem dL_law_337 : decode cL_law 337 = .ok (.aload_n 0, 1) := by decide +kernel
theorem dL_law_338 : decode cL_law 338 = .ok (.iload_n 3, 1) := by decide +kernel
theorem dL_law_339 : decode cL_law 339 = .ok (.iconst 1, 1) := by decide +kernel
theorem dL_law_340 : decode cL_law 340 = .ok (.iadd, 1) := by decide +kernel
theorem dL_law_341 : decode cL_law 341 = .ok (.iaload, 1) := by decide +kernel
theorem dL_law_342 : decode cL_law 342 = .ok (.aload_n 0, 1) := by decide +kernel
theorem dL_law_343 : decode cL_law 343 = .ok (.iload_n 3, 1) := by decide +kernel
theorem dL_law_344 : decode cL_law 344 = .ok (.iconst 2, 1) := by decide +kernel
theorem dL_law_345 : decode cL_law 345 = .ok (.iadd, 1) := by decide +kernel
theorem dL_law_346 : decode cL_law 346 = .ok (.iaload, 1) := by decide +kernel
theorem dL_law_347 : decode cL_law 347 = .ok (.aload_n 0, 1) := by decide +kernel
theorem dL_law_348 : decode cL_law 348 = .ok (.iload_n 3, 1) := by decide +kernel
theorem dL_law_349 : decode cL_law 349 = .ok (.iconst 3, 1) := by decide +kernel
theorem dL_law_350 : decode cL_law 350 = .ok (.iadd, 1) := by decide +kernel
theorem dL_law_351 : decode cL_law 351 = .ok (.iaload, 1) := by decide +kernel
theorem dL_law_352 : decode cL_law 352 = .ok (.invokevirtual 41, 3) := by decide +kernel
theorem dL_law_355 : decode cL_law 355 = .ok (.aload_n 2, 1) := by decide +kernel
theorem dL_law_356 : decode cL_law 356 = .ok (.aload_n 0, 1) := by decide +kernel
theorem dL_law_357 : decode cL_law 357 = .ok (.iload_n 3, 1) := by decide +kernel
theorem dL_law_358 : decode cL_law 358 = .ok (.iconst 1, 1) := by decide +kernel
theorem dL_law_359 : decode cL_law 359 = .ok (.iadd, 1) := by decide +kernel
theorem dL_law_360 : decode cL_law 360 = .ok (.iaload, 1) := by decide +kernel
theorem dL_law_361 : decode cL_law 361 = .ok (.aload_n 0, 1) := by decide +kernel
theorem dL_law_362 : decode cL_law 362 = .ok (.iload_n 3, 1) := by decide +kernel
theorem dL_law_363 : decode cL_law 363 = .ok (.iconst 2, 1) := by decide +kernel
theorem dL_law_364 : decode cL_law 364 = .ok (.iadd, 1) := by decide +kernel
theorem dL_law_365 : decode cL_law 365 = .ok (.iaload, 1) := by decide +kernel
theorem dL_law_366 : decode cL_law 366 = .ok (.aload_n 0, 1) := by decide +kernel
theorem dL_law_367 : decode cL_law 367 = .ok (.iload_n 3, 1) := by decide +kernel
theorem dL_law_368 : decode cL_law 368 = .ok (.iconst 3, 1) := by decide +kernel
theorem dL_law_369 : decode cL_law 369 = .ok (.iadd, 1) := by decide +kernel
theorem dL_law_370 : decode cL_law 370 = .ok (.iaload, 1) := by decide +kernel
theorem dL_law_371 : decode cL_law 371 = .ok (.invokevirtual 44, 3) := by decide +kernel
theorem dL_law_374 : decode cL_law 374 = .ok (.if_icmp .eq 434, 3) := by decide +kernel
theorem dL_law_377 : decode cL_law 377 = .ok (.iconst 0, 1) := by decide +kernel
theorem dL_law_378 : decode cL_law 378 = .ok (.ireturn, 1) := by decide +kernel
theorem dL_law_379 : decode cL_law 379 = .ok (.aload_n 1, 1) := by decide +kernel
theorem dL_law_380 : decode cL_law 380 = .ok (.aload_n 0, 1) := by decide +kernel
theorem dL_law_381 : decode cL_law 381 = .ok (.iload_n 3, 1) := by decide +kernel
theorem dL_law_382 : decode cL_law 382 = .ok (.iconst 1, 1) := by decide +kernel
theorem dL_law_383 : decode cL_law 383 = .ok (.iadd, 1) := by decide +kernel
theorem dL_law_384 : decode cL_law 384 = .ok (.iaload, 1) := by decide +kernel
theorem dL_law_385 : decode cL_law 385 = .ok (.aload_n 0, 1) := by decide +kernel
theorem dL_law_386 : decode cL_law 386 = .ok (.iload_n 3, 1) := by decide +kernel
theorem dL_law_387 : decode cL_law 387 = .ok (.iconst 2, 1) := by decide +kernel
theorem dL_law_388 : decode cL_law 388 = .ok (.iadd, 1) := by decide +kernel
theorem dL_law_389 : decode cL_law 389 = .ok (.iaload, 1) := by decide +kernel
theorem dL_law_390 : decode cL_law 390 = .ok (.invokevirtual 45, 3) := by decide +kernel
theorem dL_law_393 : decode cL_law 393 = .ok (.aload_n 2, 1) := by decide +kernel
theorem dL_law_394 : decode cL_law 394 = .ok (.aload_n 0, 1) := by decide +kernel
theorem dL_law_395 : decode cL_law 395 = .ok (.iload_n 3, 1) := by decide +kernel
theorem dL_law_396 : decode cL_law 396 = .ok (.iconst 1, 1) := by decide +kernel
theorem dL_law_397 : decode cL_law 397 = .ok (.iadd, 1) := by decide +kernel
theorem dL_law_398 : decode cL_law 398 = .ok (.iaload, 1) := by decide +kernel
theorem dL_law_399 : decode cL_law 399 = .ok (.aload_n 0, 1) := by decide +kernel
theorem dL_law_400 : decode cL_law 400 = .ok (.iload_n 3, 1) := by decide +kernel
theorem dL_law_401 : decode cL_law 401 = .ok (.iconst 2, 1) := by decide +kernel
theorem dL_law_402 : decode cL_law 402 = .ok (.iadd, 1) := by decide +kernel
theorem dL_law_403 : decode cL_law 403 = .ok (.iaload, 1) := by decide +kernel
theorem dL_law_404 : decode cL_law 404 = .ok (.invokevirtual 48, 3) := by decide +kernel
theorem dL_law_407 : decode cL_law 407 = .ok (.if_icmp .eq 401, 3) := by decide +kernel
theorem dL_law_410 : decode cL_law 410 = .ok (.iconst 0, 1) := by decide +kernel
theorem dL_law_411 : decode cL_law 411 = .ok (.ireturn, 1) := by decide +kernel
theorem dL_law_412 : decode cL_law 412 = .ok (.aload_n 1, 1) := by decide +kernel
theorem dL_law_413 : decode cL_law 413 = .ok (.aload_n 0, 1) := by decide +kernel
theorem dL_law_414 : decode cL_law 414 = .ok (.iload_n 3, 1) := by decide +kernel
theorem dL_law_415 : decode cL_law 415 = .ok (.iconst 1, 1) := by decide +kernel
theorem dL_law_416 : decode cL_law 416 = .ok (.iadd, 1) := by decide +kernel
theorem dL_law_417 : decode cL_law 417 = .ok (.iaload, 1) := by decide +kernel
theorem dL_law_418 : decode cL_law 418 = .ok (.aload_n 0, 1) := by decide +kernel
theorem dL_law_419 : decode cL_law 419 = .ok (.iload_n 3, 1) := by decide +kernel
theorem dL_law_420 : decode cL_law 420 = .ok (.iconst 2, 1) := by decide +kernel
theorem dL_law_421 : decode cL_law 421 = .ok (.iadd, 1) := by decide +kernel
theorem dL_law_422 : decode cL_law 422 = .ok (.iaload, 1) := by decide +kernel
theorem dL_law_423 : decode cL_law 423 = .ok (.invokevirtual 49, 3) := by decide +kernel
theorem dL_law_426 : decode cL_law 426 = .ok (.aload_n 2, 1) := by decide +kernel
theorem dL_law_427 : decode cL_law 427 = .ok (.aload_n 0, 1) := by decide +kernel
theorem dL_law_428 : decode cL_law 428 = .ok (.iload_n 3, 1) := by decide +kernel
theorem dL_law_429 : decode cL_law 429 = .ok (.iconst 1, 1) := by decide +kernel
theorem dL_law_430 : decode cL_law 430 = .ok (.iadd, 1) := by decide +kernel
theorem dL_law_431 : decode cL_law 431 = .ok (.iaload, 1) := by decide +kernel
theorem dL_law_432 : decode cL_law 432 = .ok (.aload_n 0, 1) := by decide +kernel
theorem dL_law_433 : decode cL_law 433 = .ok (.iload_n 3, 1) := by decide +kernel
theorem dL_law_434 : decode cL_law 434 = .ok (.iconst 2, 1) := by decide +kernel
theorem dL_law_435 : decode cL_law 435 = .ok (.iadd, 1) := by decide +kernel
theorem dL_law_436 : decode cL_law 436 = .ok (.iaload, 1) := by decide +kernel
theorem dL_law_437 : decode cL_law 437 = .ok (.invokevirtual 52, 3) := by decide +kernel
theorem dL_law_440 : decode cL_law 440 = .ok (.if_icmp .eq 368, 3) := by decide +kernel
theorem dL_law_443 : decode cL_law 443 = .ok (.iconst 0, 1) := by decide +kernel
theorem dL_law_444 : decode cL_law 444 = .ok (.ireturn, 1) := by decide +kernel
theorem dL_law_445 : decode cL_law 445 = .ok (.aload_n 1, 1) := by decide +kernel
theorem dL_law_446 : decode cL_law 446 = .ok (.aload_n 0, 1) := by decide +kernel
theorem dL_law_447 : decode cL_law 447 = .ok (.iload_n 3, 1) := by decide +kernel
theorem dL_law_448 : decode cL_law 448 = .ok (.iconst 1, 1) := by decide +kernel
theorem dL_law_449 : decode cL_law 449 = .ok (.iadd, 1) := by decide +kernel
theorem dL_law_450 : decode cL_law 450 = .ok (.iaload, 1) := by decide +kernel
theorem dL_law_451 : decode cL_law 451 = .ok (.aload_n 0, 1) := by decide +kernel
theorem dL_law_452 : decode cL_law 452 = .ok (.iload_n 3, 1) := by decide +kernel
theorem dL_law_453 : decode cL_law 453 = .ok (.iconst 2, 1) := by decide +kernel
theorem dL_law_454 : decode cL_law 454 = .ok (.iadd, 1) := by decide +kernel
theorem dL_law_455 : decode cL_law 455 = .ok (.iaload, 1) := by decide +kernel
theorem dL_law_456 : decode cL_law 456 = .ok (.invokevirtual 53, 3) := by decide +kernel
theorem dL_law_459 : decode cL_law 459 = .ok (.aload_n 2, 1) := by decide +kernel
theorem dL_law_460 : decode cL_law 460 = .ok (.aload_n 0, 1) := by decide +kernel
theorem dL_law_461 : decode cL_law 461 = .ok (.iload_n 3, 1) := by decide +kernel
theorem dL_law_462 : decode cL_law 462 = .ok (.iconst 1, 1) := by decide +kernel
theorem dL_law_463 : decode cL_law 463 = .ok (.iadd, 1) := by decide +kernel
theorem dL_law_464 : decode cL_law 464 = .ok (.iaload, 1) := by decide +kernel
theorem dL_law_465 : decode cL_law 465 = .ok (.aload_n 0, 1) := by decide +kernel
theorem dL_law_466 : decode cL_law 466 = .ok (.iload_n 3, 1) := by decide +kernel
theorem dL_law_467 : decode cL_law 467 = .ok (.iconst 2, 1) := by decide +kernel
theorem dL_law_468 : decode cL_law 468 = .ok (.iadd, 1) := by decide +kernel
theorem dL_law_469 : decode cL_law 469 = .ok (.iaload, 1) := by decide +kernel
theorem dL_law_470 : decode cL_law 470 = .ok (.invokevirtual 56, 3) := by decide +kernel
theorem dL_law_473 : decode cL_law 473 = .ok (.if_icmp .eq 335, 3) := by decide +kernel
theorem dL_law_476 : decode cL_law 476 = .ok (.iconst 0, 1) := by decide +kernel
theorem dL_law_477 : decode cL_law 477 = .ok (.ireturn, 1) := by decide +kernel
theorem dL_law_478 : decode cL_law 478 = .ok (.aload_n 1, 1) := by decide +kernel
theorem dL_law_479 : decode cL_law 479 = .ok (.aload_n 0, 1) := by decide +kernel
theorem dL_law_480 : decode cL_law 480 = .ok (.iload_n 3, 1) := by decide +kernel
theorem dL_law_481 : decode cL_law 481 = .ok (.iconst 1, 1) := by decide +kernel
theorem dL_law_482 : decode cL_law 482 = .ok (.iadd, 1) := by decide +kernel
theorem dL_law_483 : decode cL_law 483 = .ok (.iaload, 1) := by decide +kernel
theorem dL_law_484 : decode cL_law 484 = .ok (.invokevirtual 57, 3) := by decide +kernel
theorem dL_law_487 : decode cL_law 487 = .ok (.aload_n 2, 1) := by decide +kernel
theorem dL_law_488 : decode cL_law 488 = .ok (.aload_n 0, 1) := by decide +kernel
theorem dL_law_489 : decode cL_law 489 = .ok (.iload_n 3, 1) := by decide +kernel
theorem dL_law_490 : decode cL_law 490 = .ok (.iconst 1, 1) := by decide +kernel
theorem dL_law_491 : decode cL_law 491 = .ok (.iadd, 1) := by decide +kernel
theorem dL_law_492 : decode cL_law 492 = .ok (.iaload, 1) := by decide +kernel
theorem dL_law_493 : decode cL_law 493 = .ok (.invokevirtual 60, 3) := by decide +kernel
theorem dL_law_496 : decode cL_law 496 = .ok (.if_icmp .eq 312, 3) := by decide +kernel
theorem dL_law_499 : decode cL_law 499 = .ok (.iconst 0, 1) := by decide +kernel
theorem dL_law_500 : decode cL_law 500 = .ok (.ireturn, 1) := by decide +kernel
theorem dL_law_501 : decode cL_law 501 = .ok (.aload_n 1, 1) := by decide +kernel
theorem dL_law_502 : decode cL_law 502 = .ok (.aload_n 0, 1) := by decide +kernel
theorem dL_law_503 : decode cL_law 503 = .ok (.iload_n 3, 1) := by decide +kernel
theorem dL_law_504 : decode cL_law 504 = .ok (.iconst 1, 1) := by decide +kernel
theorem dL_law_505 : decode cL_law 505 = .ok (.iadd, 1) := by decide +kernel
theorem dL_law_506 : decode cL_law 506 = .ok (.iaload, 1) := by decide +kernel
theorem dL_law_507 : decode cL_law 507 = .ok (.invokevirtual 61, 3) := by decide +kernel
theorem dL_law_510 : decode cL_law 510 = .ok (.aload_n 2, 1) := by decide +kernel
theorem dL_law_511 : decode cL_law 511 = .ok (.aload_n 0, 1) := by decide +kernel
theorem dL_law_512 : decode cL_law 512 = .ok (.iload_n 3, 1) := by decide +kernel
theorem dL_law_513 : decode cL_law 513 = .ok (.iconst 1, 1) := by decide +kernel
theorem dL_law_514 : decode cL_law 514 = .ok (.iadd, 1) := by decide +kernel
theorem dL_law_515 : decode cL_law 515 = .ok (.iaload, 1) := by decide +kernel
theorem dL_law_516 : decode cL_law 516 = .ok (.invokevirtual 64, 3) := by decide +kernel
theorem dL_law_519 : decode cL_law 519 = .ok (.if_icmp .eq 289, 3) := by decide +kernel
theorem dL_law_522 : decode cL_law 522 = .ok (.iconst 0, 1) := by decide +kernel
theorem dL_law_523 : decode cL_law 523 = .ok (.ireturn, 1) := by decide +kernel
theorem dL_law_524 : decode cL_law 524 = .ok (.aload_n 1, 1) := by decide +kernel
theorem dL_law_525 : decode cL_law 525 = .ok (.aload_n 0, 1) := by decide +kernel
theorem dL_law_526 : decode cL_law 526 = .ok (.iload_n 3, 1) := by decide +kernel
theorem dL_law_527 : decode cL_law 527 = .ok (.iconst 1, 1) := by decide +kernel
theorem dL_law_528 : decode cL_law 528 = .ok (.iadd, 1) := by decide +kernel
theorem dL_law_529 : decode cL_law 529 = .ok (.iaload, 1) := by decide +kernel
theorem dL_law_530 : decode cL_law 530 = .ok (.invokevirtual 65, 3) := by decide +kernel
theorem dL_law_533 : decode cL_law 533 = .ok (.aload_n 2, 1) := by decide +kernel
theorem dL_law_534 : decode cL_law 534 = .ok (.aload_n 0, 1) := by decide +kernel
theorem dL_law_535 : decode cL_law 535 = .ok (.iload_n 3, 1) := by decide +kernel
theorem dL_law_536 : decode cL_law 536 = .ok (.iconst 1, 1) := by decide +kernel
theorem dL_law_537 : decode cL_law 537 = .ok (.iadd, 1) := by decide +kernel
theorem dL_law_538 : decode cL_law 538 = .ok (.iaload, 1) := by decide +kernel
theorem dL_law_539 : decode cL_law 539 = .ok (.invokevirtual 68, 3) := by decide +kernel
theorem dL_law_542 : decode cL_law 542 = .ok (.if_icmp .eq 266, 3) := by decide +kernel
theorem dL_law_545 : decode cL_law 545 = .ok (.iconst 0, 1) := by decide +kernel
theorem dL_law_546 : decode cL_law 546 = .ok (.ireturn, 1) := by decide +kernel
theorem dL_law_547 : decode cL_law 547 = .ok (.aload_n 1, 1) := by decide +kernel
theorem dL_law_548 : decode cL_law 548 = .ok (.aload_n 0, 1) := by decide +kernel
theorem dL_law_549 : decode cL_law 549 = .ok (.iload_n 3, 1) := by decide +kernel
theorem dL_law_550 : decode cL_law 550 = .ok (.iconst 1, 1) := by decide +kernel
theorem dL_law_551 : decode cL_law 551 = .ok (.iadd, 1) := by decide +kernel
theorem dL_law_552 : decode cL_law 552 = .ok (.iaload, 1) := by decide +kernel
theorem dL_law_553 : decode cL_law 553 = .ok (.aload_n 0, 1) := by decide +kernel
theorem dL_law_554 : decode cL_law 554 = .ok (.iload_n 3, 1) := by decide +kernel
theorem dL_law_555 : decode cL_law 555 = .ok (.iconst 2, 1) := by decide +kernel
theorem dL_law_556 : decode cL_law 556 = .ok (.iadd, 1) := by decide +kernel
theorem dL_law_557 : decode cL_law 557 = .ok (.iaload, 1) := by decide +kernel
theorem dL_law_558 : decode cL_law 558 = .ok (.invokevirtual 69, 3) := by decide +kernel
theorem dL_law_561 : decode cL_law 561 = .ok (.aload_n 2, 1) := by decide +kernel
theorem dL_law_562 : decode cL_law 562 = .ok (.aload_n 0, 1) := by decide +kernel
theorem dL_law_563 : decode cL_law 563 = .ok (.iload_n 3, 1) := by decide +kernel
theorem dL_law_564 : decode cL_law 564 = .ok (.iconst 1, 1) := by decide +kernel
theorem dL_law_565 : decode cL_law 565 = .ok (.iadd, 1) := by decide +kernel
theorem dL_law_566 : decode cL_law 566 = .ok (.iaload, 1) := by decide +kernel
theorem dL_law_567 : decode cL_law 567 = .ok (.aload_n 0, 1) := by decide +kernel
theorem dL_law_568 : decode cL_law 568 = .ok (.iload_n 3, 1) := by decide +kernel
theorem dL_law_569 : decode cL_law 569 = .ok (.iconst 2, 1) := by decide +kernel
theorem dL_law_570 : decode cL_law 570 = .ok (.iadd, 1) := by decide +kernel
theorem dL_law_571 : decode cL_law 571 = .ok (.iaload, 1) := by decide +kernel
theorem dL_law_572 : decode cL_law 572 = .ok (.invokevirtual 73, 3) := by decide +kernel
theorem dL_law_575 : decode cL_law 575 = .ok (.if_icmp .eq 233, 3) := by decide +kernel
theorem dL_law_578 : decode cL_law 578 = .ok (.iconst 0, 1) := by decide +kernel
theorem dL_law_579 : decode cL_law 579 = .ok (.ireturn, 1) := by decide +kernel
theorem dL_law_580 : decode cL_law 580 = .ok (.aload_n 1, 1) := by decide +kernel
theorem dL_law_581 : decode cL_law 581 = .ok (.aload_n 0, 1) := by decide +kernel
theorem dL_law_582 : decode cL_law 582 = .ok (.iload_n 3, 1) := by decide +kernel
theorem dL_law_583 : decode cL_law 583 = .ok (.iconst 1, 1) := by decide +kernel
theorem dL_law_584 : decode cL_law 584 = .ok (.iadd, 1) := by decide +kernel
theorem dL_law_585 : decode cL_law 585 = .ok (.iaload, 1) := by decide +kernel
theorem dL_law_586 : decode cL_law 586 = .ok (.aload_n 0, 1) := by decide +kernel
theorem dL_law_587 : decode cL_law 587 = .ok (.iload_n 3, 1) := by decide +kernel
theorem dL_law_588 : decode cL_law 588 = .ok (.iconst 2, 1) := by decide +kernel
theorem dL_law_589 : decode cL_law 589 = .ok (.iadd, 1) := by decide +kernel
theorem dL_law_590 : decode cL_law 590 = .ok (.iaload, 1) := by decide +kernel
theorem dL_law_591 : decode cL_law 591 = .ok (.aload_n 0, 1) := by decide +kernel
theorem dL_law_592 : decode cL_law 592 = .ok (.iload_n 3, 1) := by decide +kernel
theorem dL_law_593 : decode cL_law 593 = .ok (.iconst 3, 1) := by decide +kernel
theorem dL_law_594 : decode cL_law 594 = .ok (.iadd, 1) := by decide +kernel
theorem dL_law_595 : decode cL_law 595 = .ok (.iaload, 1) := by decide +kernel
theorem dL_law_596 : decode cL_law 596 = .ok (.aload_n 0, 1) := by decide +kernel
theorem dL_law_597 : decode cL_law 597 = .ok (.iload_n 3, 1) := by decide +kernel
theorem dL_law_598 : decode cL_law 598 = .ok (.iconst 4, 1) := by decide +kernel
theorem dL_law_599 : decode cL_law 599 = .ok (.iadd, 1) := by decide +kernel
theorem dL_law_600 : decode cL_law 600 = .ok (.iaload, 1) := by decide +kernel
theorem dL_law_601 : decode cL_law 601 = .ok (.invokevirtual 74, 3) := by decide +kernel
theorem dL_law_604 : decode cL_law 604 = .ok (.aload_n 2, 1) := by decide +kernel
theorem dL_law_605 : decode cL_law 605 = .ok (.aload_n 0, 1) := by decide +kernel
theorem dL_law_606 : decode cL_law 606 = .ok (.iload_n 3, 1) := by decide +kernel
theorem dL_law_607 : decode cL_law 607 = .ok (.iconst 1, 1) := by decide +kernel
theorem dL_law_608 : decode cL_law 608 = .ok (.iadd, 1) := by decide +kernel
theorem dL_law_609 : decode cL_law 609 = .ok (.iaload, 1) := by decide +kernel
theorem dL_law_610 : decode cL_law 610 = .ok (.aload_n 0, 1) := by decide +kernel
theorem dL_law_611 : decode cL_law 611 = .ok (.iload_n 3, 1) := by decide +kernel
theorem dL_law_612 : decode cL_law 612 = .ok (.iconst 2, 1) := by decide +kernel
theorem dL_law_613 : decode cL_law 613 = .ok (.iadd, 1) := by decide +kernel
theorem dL_law_614 : decode cL_law 614 = .ok (.iaload, 1) := by decide +kernel
theorem dL_law_615 : decode cL_law 615 = .ok (.aload_n 0, 1) := by decide +kernel
theorem dL_law_616 : decode cL_law 616 = .ok (.iload_n 3, 1) := by decide +kernel
theorem dL_law_617 : decode cL_law 617 = .ok (.iconst 3, 1) := by decide +kernel
theorem dL_law_618 : decode cL_law 618 = .ok (.iadd, 1) := by decide +kernel
theorem dL_law_619 : decode cL_law 619 = .ok (.iaload, 1) := by decide +kernel
theorem dL_law_620 : decode cL_law 620 = .ok (.aload_n 0, 1) := by decide +kernel
theorem dL_law_621 : decode cL_law 621 = .ok (.iload_n 3, 1) := by decide +kernel
theorem dL_law_622 : decode cL_law 622 = .ok (.iconst 4, 1) := by decide +kernel
theorem dL_law_623 : decode cL_law 623 = .ok (.iadd, 1) := by decide +kernel
theorem dL_law_624 : decode cL_law 624 = .ok (.iaload, 1) := by decide +kernel
theorem dL_law_625 : decode cL_law 625 = .ok (.invokevirtual 78, 3) := by decide +kernel
theorem dL_law_628 : decode cL_law 628 = .ok (.if_icmp .eq 180, 3) := by decide +kernel
theorem dL_law_631 : decode cL_law 631 = .ok (.iconst 0, 1) := by decide +kernel
theorem dL_law_632 : decode cL_law 632 = .ok (.ireturn, 1) := by decide +kernel
theorem dL_law_633 : decode cL_law 633 = .ok (.aload_n 1, 1) := by decide +kernel
theorem dL_law_634 : decode cL_law 634 = .ok (.aload_n 0, 1) := by decide +kernel
theorem dL_law_635 : decode cL_law 635 = .ok (.iload_n 3, 1) := by decide +kernel
theorem dL_law_636 : decode cL_law 636 = .ok (.iconst 1, 1) := by decide +kernel
theorem dL_law_637 : decode cL_law 637 = .ok (.iadd, 1) := by decide +kernel
theorem dL_law_638 : decode cL_law 638 = .ok (.iaload, 1) := by decide +kernel
theorem dL_law_639 : decode cL_law 639 = .ok (.aload_n 0, 1) := by decide +kernel
theorem dL_law_640 : decode cL_law 640 = .ok (.iload_n 3, 1) := by decide +kernel
theorem dL_law_641 : decode cL_law 641 = .ok (.iconst 2, 1) := by decide +kernel
theorem dL_law_642 : decode cL_law 642 = .ok (.iadd, 1) := by decide +kernel
theorem dL_law_643 : decode cL_law 643 = .ok (.iaload, 1) := by decide +kernel
theorem dL_law_644 : decode cL_law 644 = .ok (.aload_n 0, 1) := by decide +kernel
theorem dL_law_645 : decode cL_law 645 = .ok (.iload_n 3, 1) := by decide +kernel
theorem dL_law_646 : decode cL_law 646 = .ok (.iconst 3, 1) := by decide +kernel
theorem dL_law_647 : decode cL_law 647 = .ok (.iadd, 1) := by decide +kernel
theorem dL_law_648 : decode cL_law 648 = .ok (.iaload, 1) := by decide +kernel
theorem dL_law_649 : decode cL_law 649 = .ok (.invokevirtual 79, 3) := by decide +kernel
theorem dL_law_652 : decode cL_law 652 = .ok (.aload_n 2, 1) := by decide +kernel
theorem dL_law_653 : decode cL_law 653 = .ok (.aload_n 0, 1) := by decide +kernel
theorem dL_law_654 : decode cL_law 654 = .ok (.iload_n 3, 1) := by decide +kernel
theorem dL_law_655 : decode cL_law 655 = .ok (.iconst 1, 1) := by decide +kernel
theorem dL_law_656 : decode cL_law 656 = .ok (.iadd, 1) := by decide +kernel
theorem dL_law_657 : decode cL_law 657 = .ok (.iaload, 1) := by decide +kernel
theorem dL_law_658 : decode cL_law 658 = .ok (.aload_n 0, 1) := by decide +kernel
theorem dL_law_659 : decode cL_law 659 = .ok (.iload_n 3, 1) := by decide +kernel
theorem dL_law_660 : decode cL_law 660 = .ok (.iconst 2, 1) := by decide +kernel
theorem dL_law_661 : decode cL_law 661 = .ok (.iadd, 1) := by decide +kernel
theorem dL_law_662 : decode cL_law 662 = .ok (.iaload, 1) := by decide +kernel
theorem dL_law_663 : decode cL_law 663 = .ok (.aload_n 0, 1) := by decide +kernel
theorem dL_law_664 : decode cL_law 664 = .ok (.iload_n 3, 1) := by decide +kernel
theorem dL_law_665 : decode cL_law 665 = .ok (.iconst 3, 1) := by decide +kernel
theorem dL_law_666 : decode cL_law 666 = .ok (.iadd, 1) := by decide +kernel
theorem dL_law_667 : decode cL_law 667 = .ok (.iaload, 1) := by decide +kernel
theorem dL_law_668 : decode cL_law 668 = .ok (.invokevirtual 82, 3) := by decide +kernel
theorem dL_law_671 : decode cL_law 671 = .ok (.if_icmp .eq 137, 3) := by decide +kernel
theorem dL_law_674 : decode cL_law 674 = .ok (.iconst 0, 1) := by decide +kernel
theorem dL_law_675 : decode cL_law 675 = .ok (.ireturn, 1) := by decide +kernel
theorem dL_law_676 : decode cL_law 676 = .ok (.aload_n 1, 1) := by decide +kernel
theorem dL_law_677 : decode cL_law 677 = .ok (.aload_n 0, 1) := by decide +kernel
theorem dL_law_678 : decode cL_law 678 = .ok (.iload_n 3, 1) := by decide +kernel
theorem dL_law_679 : decode cL_law 679 = .ok (.iconst 1, 1) := by decide +kernel
theorem dL_law_680 : decode cL_law 680 = .ok (.iadd, 1) := by decide +kernel
theorem dL_law_681 : decode cL_law 681 = .ok (.iaload, 1) := by decide +kernel
theorem dL_law_682 : decode cL_law 682 = .ok (.aload_n 0, 1) := by decide +kernel
theorem dL_law_683 : decode cL_law 683 = .ok (.iload_n 3, 1) := by decide +kernel
theorem dL_law_684 : decode cL_law 684 = .ok (.iconst 2, 1) := by decide +kernel
theorem dL_law_685 : decode cL_law 685 = .ok (.iadd, 1) := by decide +kernel
theorem dL_law_686 : decode cL_law 686 = .ok (.iaload, 1) := by decide +kernel
theorem dL_law_687 : decode cL_law 687 = .ok (.invokevirtual 83, 3) := by decide +kernel
theorem dL_law_690 : decode cL_law 690 = .ok (.aload_n 2, 1) := by decide +kernel
theorem dL_law_691 : decode cL_law 691 = .ok (.aload_n 0, 1) := by decide +kernel
theorem dL_law_692 : decode cL_law 692 = .ok (.iload_n 3, 1) := by decide +kernel
theorem dL_law_693 : decode cL_law 693 = .ok (.iconst 1, 1) := by decide +kernel
theorem dL_law_694 : decode cL_law 694 = .ok (.iadd, 1) := by decide +kernel
theorem dL_law_695 : decode cL_law 695 = .ok (.iaload, 1) := by decide +kernel
theorem dL_law_696 : decode cL_law 696 = .ok (.aload_n 0, 1) := by decide +kernel
theorem dL_law_697 : decode cL_law 697 = .ok (.iload_n 3, 1) := by decide +kernel
theorem dL_law_698 : decode cL_law 698 = .ok (.iconst 2, 1) := by decide +kernel
theorem dL_law_699 : decode cL_law 699 = .ok (.iadd, 1) := by decide +kernel
theorem dL_law_700 : decode cL_law 700 = .ok (.iaload, 1) := by decide +kernel
theorem dL_law_701 : decode cL_law 701 = .ok (.invokevirtual 86, 3) := by decide +kernel
theorem dL_law_704 : decode cL_law 704 = .ok (.if_icmp .eq 104, 3) := by decide +kernel
theorem dL_law_707 : decode cL_law 707 = .ok (.iconst 0, 1) := by decide +kernel
theorem dL_law_708 : decode cL_law 708 = .ok (.ireturn, 1) := by decide +kernel
theorem dL_law_709 : decode cL_law 709 = .ok (.aload_n 1, 1) := by decide +kernel
theorem dL_law_710 : decode cL_law 710 = .ok (.aload_n 0, 1) := by decide +kernel
theorem dL_law_711 : decode cL_law 711 = .ok (.iload_n 3, 1) := by decide +kernel
theorem dL_law_712 : decode cL_law 712 = .ok (.iconst 1, 1) := by decide +kernel
theorem dL_law_713 : decode cL_law 713 = .ok (.iadd, 1) := by decide +kernel
theorem dL_law_714 : decode cL_law 714 = .ok (.iaload, 1) := by decide +kernel
theorem dL_law_715 : decode cL_law 715 = .ok (.aload_n 0, 1) := by decide +kernel
theorem dL_law_716 : decode cL_law 716 = .ok (.iload_n 3, 1) := by decide +kernel
theorem dL_law_717 : decode cL_law 717 = .ok (.iconst 2, 1) := by decide +kernel
theorem dL_law_718 : decode cL_law 718 = .ok (.iadd, 1) := by decide +kernel
theorem dL_law_719 : decode cL_law 719 = .ok (.iaload, 1) := by decide +kernel
theorem dL_law_720 : decode cL_law 720 = .ok (.aload_n 0, 1) := by decide +kernel
theorem dL_law_721 : decode cL_law 721 = .ok (.iload_n 3, 1) := by decide +kernel
theorem dL_law_722 : decode cL_law 722 = .ok (.iconst 3, 1) := by decide +kernel
theorem dL_law_723 : decode cL_law 723 = .ok (.iadd, 1) := by decide +kernel
theorem dL_law_724 : decode cL_law 724 = .ok (.iaload, 1) := by decide +kernel
theorem dL_law_725 : decode cL_law 725 = .ok (.invokevirtual 87, 3) := by decide +kernel
theorem dL_law_728 : decode cL_law 728 = .ok (.aload_n 2, 1) := by decide +kernel
theorem dL_law_729 : decode cL_law 729 = .ok (.aload_n 0, 1) := by decide +kernel
theorem dL_law_730 : decode cL_law 730 = .ok (.iload_n 3, 1) := by decide +kernel
theorem dL_law_731 : decode cL_law 731 = .ok (.iconst 1, 1) := by decide +kernel
theorem dL_law_732 : decode cL_law 732 = .ok (.iadd, 1) := by decide +kernel
theorem dL_law_733 : decode cL_law 733 = .ok (.iaload, 1) := by decide +kernel
theorem dL_law_734 : decode cL_law 734 = .ok (.aload_n 0, 1) := by decide +kernel
theorem dL_law_735 : decode cL_law 735 = .ok (.iload_n 3, 1) := by decide +kernel
theorem dL_law_736 : decode cL_law 736 = .ok (.iconst 2, 1) := by decide +kernel
theorem dL_law_737 : decode cL_law 737 = .ok (.iadd, 1) := by decide +kernel
theorem dL_law_738 : decode cL_law 738 = .ok (.iaload, 1) := by decide +kernel
theorem dL_law_739 : decode cL_law 739 = .ok (.aload_n 0, 1) := by decide +kernel
theorem dL_law_740 : decode cL_law 740 = .ok (.iload_n 3, 1) := by decide +kernel
theorem dL_law_741 : decode cL_law 741 = .ok (.iconst 3, 1) := by decide +kernel
theorem dL_law_742 : decode cL_law 742 = .ok (.iadd, 1) := by decide +kernel
theorem dL_law_743 : decode cL_law 743 = .ok (.iaload, 1) := by decide +kernel
theorem dL_law_744 : decode cL_law 744 = .ok (.invokevirtual 90, 3) := by decide +kernel
theorem dL_law_747 : decode cL_law 747 = .ok (.if_icmp .eq 61, 3) := by decide +kernel
theorem dL_law_750 : decode cL_law 750 = .ok (.iconst 0, 1) := by decide +kernel
theorem dL_law_751 : decode cL_law 751 = .ok (.ireturn, 1) := by decide +kernel
theorem dL_law_752 : decode cL_law 752 = .ok (.aload_n 1, 1) := by decide +kernel
theorem dL_law_753 : decode cL_law 753 = .ok (.aload_n 0, 1) := by decide +kernel
theorem dL_law_754 : decode cL_law 754 = .ok (.iload_n 3, 1) := by decide +kernel
theorem dL_law_755 : decode cL_law 755 = .ok (.iconst 1, 1) := by decide +kernel
theorem dL_law_756 : decode cL_law 756 = .ok (.iadd, 1) := by decide +kernel
theorem dL_law_757 : decode cL_law 757 = .ok (.iaload, 1) := by decide +kernel
theorem dL_law_758 : decode cL_law 758 = .ok (.invokevirtual 91, 3) := by decide +kernel
theorem dL_law_761 : decode cL_law 761 = .ok (.aload_n 2, 1) := by decide +kernel
theorem dL_law_762 : decode cL_law 762 = .ok (.aload_n 0, 1) := by decide +kernel
theorem dL_law_763 : decode cL_law 763 = .ok (.iload_n 3, 1) := by decide +kernel
theorem dL_law_764 : decode cL_law 764 = .ok (.iconst 1, 1) := by decide +kernel
theorem dL_law_765 : decode cL_law 765 = .ok (.iadd, 1) := by decide +kernel
theorem dL_law_766 : decode cL_law 766 = .ok (.iaload, 1) := by decide +kernel
theorem dL_law_767 : decode cL_law 767 = .ok (.invokevirtual 94, 3) := by decide +kernel
theorem dL_law_770 : decode cL_law 770 = .ok (.if_icmp .eq 38, 3) := by decide +kernel
theorem dL_law_773 : decode cL_law 773 = .ok (.iconst 0, 1) := by decide +kernel
theorem dL_law_774 : decode cL_law 774 = .ok (.ireturn, 1) := by decide +kernel
theorem dL_law_775 : decode cL_law 775 = .ok (.aload_n 1, 1) := by decide +kernel
theorem dL_law_776 : decode cL_law 776 = .ok (.aload_n 0, 1) := by decide +kernel
theorem dL_law_777 : decode cL_law 777 = .ok (.iload_n 3, 1) := by decide +kernel
theorem dL_law_778 : decode cL_law 778 = .ok (.iconst 1, 1) := by decide +kernel
theorem dL_law_779 : decode cL_law 779 = .ok (.iadd, 1) := by decide +kernel
theorem dL_law_780 : decode cL_law 780 = .ok (.iaload, 1) := by decide +kernel
theorem dL_law_781 : decode cL_law 781 = .ok (.aload_n 0, 1) := by decide +kernel
theorem dL_law_782 : decode cL_law 782 = .ok (.iload_n 3, 1) := by decide +kernel
theorem dL_law_783 : decode cL_law 783 = .ok (.iconst 2, 1) := by decide +kernel
theorem dL_law_784 : decode cL_law 784 = .ok (.iadd, 1) := by decide +kernel
theorem dL_law_785 : decode cL_law 785 = .ok (.iaload, 1) := by decide +kernel
theorem dL_law_786 : decode cL_law 786 = .ok (.invokevirtual 95, 3) := by decide +kernel
theorem dL_law_789 : decode cL_law 789 = .ok (.aload_n 2, 1) := by decide +kernel
theorem dL_law_790 : decode cL_law 790 = .ok (.aload_n 0, 1) := by decide +kernel
theorem dL_law_791 : decode cL_law 791 = .ok (.iload_n 3, 1) := by decide +kernel
theorem dL_law_792 : decode cL_law 792 = .ok (.iconst 1, 1) := by decide +kernel
theorem dL_law_793 : decode cL_law 793 = .ok (.iadd, 1) := by decide +kernel
theorem dL_law_794 : decode cL_law 794 = .ok (.iaload, 1) := by decide +kernel
theorem dL_law_795 : decode cL_law 795 = .ok (.aload_n 0, 1) := by decide +kernel
theorem dL_law_796 : decode cL_law 796 = .ok (.iload_n 3, 1) := by decide +kernel
theorem dL_law_797 : decode cL_law 797 = .ok (.iconst 2, 1) := by decide +kernel
theorem dL_law_798 : decode cL_law 798 = .ok (.iadd, 1) := by decide +kernel
theorem dL_law_799 : decode cL_law 799 = .ok (.iaload, 1) := by decide +kernel
theorem dL_law_800 : decode cL_law 800 = .ok (.invokevirtual 98, 3) := by decide +kernel
theorem dL_law_803 : decode cL_law 803 = .ok (.if_icmp .eq 5, 3) := by decide +kernel
theorem dL_law_806 : decode cL_law 806 = .ok (.iconst 0, 1) := by decide +kernel
theorem dL_law_807 : decode cL_law 807 = .ok (.ireturn, 1) := by decide +kernel
theorem dL_law_808 : decode cL_law 808 = .ok (.iinc 3 6, 3) := by decide +kernel
theorem dL_law_811 : decode cL_law 811 = .ok (.goto (-793), 3) := by decide +kernel
theorem dL_law_814 : decode cL_law 814 = .ok (.iconst 1, 1) := by decide +kernel
theorem dL_law_815 : decode cL_law 815 = .ok (.ireturn, 1) := by decide +kernel
end
section
theorem dX0_init_0 : decode cX0_init 0 = .ok (.aload_n 0, 1) := by decide +kernel
theorem dX0_init_1 : decode cX0_init 1 = .ok (.invokespecial 3, 3) := by decide +kernel
theorem dX0_init_4 : decode cX0_init 4 = .ok (.aload_n 0, 1) := by decide +kernel
theorem dX0_init_5 : decode cX0_init 5 = .ok (.bipush 16, 2) := by decide +kernel
theorem dX0_init_7 : decode cX0_init 7 = .ok (.newarray .int, 2) := by decide +kernel
theorem dX0_init_9 : decode cX0_init 9 = .ok (.putfield 9, 3) := by decide +kernel
theorem dX0_init_12 : decode cX0_init 12 = .ok (.aload_n 0, 1) := by decide +kernel
theorem dX0_init_13 : decode cX0_init 13 = .ok (.bipush 16, 2) := by decide +kernel
theorem dX0_init_15 : decode cX0_init 15 = .ok (.newarray .int, 2) := by decide +kernel
theorem dX0_init_17 : decode cX0_init 17 = .ok (.putfield 15, 3) := by decide +kernel
theorem dX0_init_20 : decode cX0_init 20 = .ok (.aload_n 0, 1) := by decide +kernel
theorem dX0_init_21 : decode cX0_init 21 = .ok (.bipush 16, 2) := by decide +kernel
theorem dX0_init_23 : decode cX0_init 23 = .ok (.newarray .int, 2) := by decide +kernel
theorem dX0_init_25 : decode cX0_init 25 = .ok (.putfield 18, 3) := by decide +kernel
theorem dX0_init_28 : decode cX0_init 28 = .ok (.return_, 1) := by decide +kernel
theorem dX0_learn_0 : decode cX0_learn 0 = .ok (.aload_n 1, 1) := by decide +kernel
theorem dX0_learn_1 : decode cX0_learn 1 = .ok (.getfield 21, 3) := by decide +kernel
theorem dX0_learn_4 : decode cX0_learn 4 = .ok (.astore_n 2, 1) := by decide +kernel
theorem dX0_learn_5 : decode cX0_learn 5 = .ok (.aload_n 2, 1) := by decide +kernel
theorem dX0_learn_6 : decode cX0_learn 6 = .ok (.arraylength, 1) := by decide +kernel
theorem dX0_learn_7 : decode cX0_learn 7 = .ok (.istore_n 3, 1) := by decide +kernel
theorem dX0_learn_8 : decode cX0_learn 8 = .ok (.iconst 0, 1) := by decide +kernel
theorem dX0_learn_9 : decode cX0_learn 9 = .ok (.istore 4, 2) := by decide +kernel
theorem dX0_learn_11 : decode cX0_learn 11 = .ok (.iload 4, 2) := by decide +kernel
theorem dX0_learn_13 : decode cX0_learn 13 = .ok (.iload_n 3, 1) := by decide +kernel
theorem dX0_learn_14 : decode cX0_learn 14 = .ok (.if_icmp .ge 34, 3) := by decide +kernel
theorem dX0_learn_17 : decode cX0_learn 17 = .ok (.aload_n 2, 1) := by decide +kernel
theorem dX0_learn_18 : decode cX0_learn 18 = .ok (.iload 4, 2) := by decide +kernel
theorem dX0_learn_20 : decode cX0_learn 20 = .ok (.aaload, 1) := by decide +kernel
theorem dX0_learn_21 : decode cX0_learn 21 = .ok (.astore 5, 2) := by decide +kernel
theorem dX0_learn_23 : decode cX0_learn 23 = .ok (.aload 5, 2) := by decide +kernel
theorem dX0_learn_25 : decode cX0_learn 25 = .ok (.ifnull 17, 3) := by decide +kernel
theorem dX0_learn_28 : decode cX0_learn 28 = .ok (.aload 5, 2) := by decide +kernel
theorem dX0_learn_30 : decode cX0_learn 30 = .ok (.invokevirtual 27, 3) := by decide +kernel
theorem dX0_learn_33 : decode cX0_learn 33 = .ok (.ifCond .eq 9, 3) := by decide +kernel
theorem dX0_learn_36 : decode cX0_learn 36 = .ok (.aload_n 0, 1) := by decide +kernel
theorem dX0_learn_37 : decode cX0_learn 37 = .ok (.aload 5, 2) := by decide +kernel
theorem dX0_learn_39 : decode cX0_learn 39 = .ok (.invokevirtual 33, 3) := by decide +kernel
theorem dX0_learn_42 : decode cX0_learn 42 = .ok (.iinc 4 1, 3) := by decide +kernel
theorem dX0_learn_45 : decode cX0_learn 45 = .ok (.goto (-34), 3) := by decide +kernel
theorem dX0_learn_48 : decode cX0_learn 48 = .ok (.aload_n 0, 1) := by decide +kernel
theorem dX0_learn_49 : decode cX0_learn 49 = .ok (.invokevirtual 37, 3) := by decide +kernel
theorem dX0_learn_52 : decode cX0_learn 52 = .ok (.return_, 1) := by decide +kernel
theorem dX0_lockOfRing_0 : decode cX0_lockOfRing 0 = .ok (.iload_n 1, 1) := by decide +kernel
theorem dX0_lockOfRing_1 : decode cX0_lockOfRing 1 = .ok (.ifCond .lt 11, 3) := by decide +kernel
theorem dX0_lockOfRing_4 : decode cX0_lockOfRing 4 = .ok (.iload_n 1, 1) := by decide +kernel
theorem dX0_lockOfRing_5 : decode cX0_lockOfRing 5 = .ok (.aload_n 0, 1) := by decide +kernel
theorem dX0_lockOfRing_6 : decode cX0_lockOfRing 6 = .ok (.getfield 40, 3) := by decide +kernel
theorem dX0_lockOfRing_9 : decode cX0_lockOfRing 9 = .ok (.if_icmp .lt 7, 3) := by decide +kernel
theorem dX0_lockOfRing_12 : decode cX0_lockOfRing 12 = .ok (.iconst (-1), 1) := by decide +kernel
theorem dX0_lockOfRing_13 : decode cX0_lockOfRing 13 = .ok (.goto 9, 3) := by decide +kernel
theorem dX0_lockOfRing_16 : decode cX0_lockOfRing 16 = .ok (.aload_n 0, 1) := by decide +kernel
theorem dX0_lockOfRing_17 : decode cX0_lockOfRing 17 = .ok (.getfield 18, 3) := by decide +kernel
theorem dX0_lockOfRing_20 : decode cX0_lockOfRing 20 = .ok (.iload_n 1, 1) := by decide +kernel
theorem dX0_lockOfRing_21 : decode cX0_lockOfRing 21 = .ok (.iaload, 1) := by decide +kernel
theorem dX0_lockOfRing_22 : decode cX0_lockOfRing 22 = .ok (.ireturn, 1) := by decide +kernel
theorem dX0_learnRow_0 : decode cX0_learnRow 0 = .ok (.iconst 0, 1) := by decide +kernel
theorem dX0_learnRow_1 : decode cX0_learnRow 1 = .ok (.istore_n 2, 1) := by decide +kernel
theorem dX0_learnRow_2 : decode cX0_learnRow 2 = .ok (.iload_n 2, 1) := by decide +kernel
theorem dX0_learnRow_3 : decode cX0_learnRow 3 = .ok (.bipush 16, 2) := by decide +kernel
theorem dX0_learnRow_5 : decode cX0_learnRow 5 = .ok (.if_icmp .ge 40, 3) := by decide +kernel
theorem dX0_learnRow_8 : decode cX0_learnRow 8 = .ok (.aload_n 1, 1) := by decide +kernel
theorem dX0_learnRow_9 : decode cX0_learnRow 9 = .ok (.iload_n 2, 1) := by decide +kernel
theorem dX0_learnRow_10 : decode cX0_learnRow 10 = .ok (.invokevirtual 44, 3) := by decide +kernel
theorem dX0_learnRow_13 : decode cX0_learnRow 13 = .ok (.ifCond .eq 26, 3) := by decide +kernel
theorem dX0_learnRow_16 : decode cX0_learnRow 16 = .ok (.iload_n 2, 1) := by decide +kernel
theorem dX0_learnRow_17 : decode cX0_learnRow 17 = .ok (.aload_n 1, 1) := by decide +kernel
theorem dX0_learnRow_18 : decode cX0_learnRow 18 = .ok (.getfield 48, 3) := by decide +kernel
theorem dX0_learnRow_21 : decode cX0_learnRow 21 = .ok (.if_icmp .eq 18, 3) := by decide +kernel
theorem dX0_learnRow_24 : decode cX0_learnRow 24 = .ok (.aload_n 0, 1) := by decide +kernel
theorem dX0_learnRow_25 : decode cX0_learnRow 25 = .ok (.getfield 9, 3) := by decide +kernel
theorem dX0_learnRow_28 : decode cX0_learnRow 28 = .ok (.iload_n 2, 1) := by decide +kernel
theorem dX0_learnRow_29 : decode cX0_learnRow 29 = .ok (.dup2, 1) := by decide +kernel
theorem dX0_learnRow_30 : decode cX0_learnRow 30 = .ok (.iaload, 1) := by decide +kernel
theorem dX0_learnRow_31 : decode cX0_learnRow 31 = .ok (.iconst 1, 1) := by decide +kernel
theorem dX0_learnRow_32 : decode cX0_learnRow 32 = .ok (.aload_n 1, 1) := by decide +kernel
theorem dX0_learnRow_33 : decode cX0_learnRow 33 = .ok (.getfield 48, 3) := by decide +kernel
theorem dX0_learnRow_36 : decode cX0_learnRow 36 = .ok (.ishl, 1) := by decide +kernel
theorem dX0_learnRow_37 : decode cX0_learnRow 37 = .ok (.ior, 1) := by decide +kernel
theorem dX0_learnRow_38 : decode cX0_learnRow 38 = .ok (.iastore, 1) := by decide +kernel
theorem dX0_learnRow_39 : decode cX0_learnRow 39 = .ok (.iinc 2 1, 3) := by decide +kernel
theorem dX0_learnRow_42 : decode cX0_learnRow 42 = .ok (.goto (-40), 3) := by decide +kernel
theorem dX0_learnRow_45 : decode cX0_learnRow 45 = .ok (.return_, 1) := by decide +kernel
theorem dX0_findRing_0 : decode cX0_findRing 0 = .ok (.aload_n 0, 1) := by decide +kernel
theorem dX0_findRing_1 : decode cX0_findRing 1 = .ok (.iconst 0, 1) := by decide +kernel
theorem dX0_findRing_2 : decode cX0_findRing 2 = .ok (.putfield 40, 3) := by decide +kernel
theorem dX0_findRing_5 : decode cX0_findRing 5 = .ok (.iconst 0, 1) := by decide +kernel
theorem dX0_findRing_6 : decode cX0_findRing 6 = .ok (.istore_n 1, 1) := by decide +kernel
theorem dX0_findRing_7 : decode cX0_findRing 7 = .ok (.iload_n 1, 1) := by decide +kernel
theorem dX0_findRing_8 : decode cX0_findRing 8 = .ok (.bipush 16, 2) := by decide +kernel
theorem dX0_findRing_10 : decode cX0_findRing 10 = .ok (.if_icmp .ge 47, 3) := by decide +kernel
theorem dX0_findRing_13 : decode cX0_findRing 13 = .ok (.aload_n 0, 1) := by decide +kernel
theorem dX0_findRing_14 : decode cX0_findRing 14 = .ok (.iload_n 1, 1) := by decide +kernel
theorem dX0_findRing_15 : decode cX0_findRing 15 = .ok (.invokevirtual 51, 3) := by decide +kernel
theorem dX0_findRing_18 : decode cX0_findRing 18 = .ok (.aload_n 0, 1) := by decide +kernel
theorem dX0_findRing_19 : decode cX0_findRing 19 = .ok (.iload_n 1, 1) := by decide +kernel
theorem dX0_findRing_20 : decode cX0_findRing 20 = .ok (.invokevirtual 55, 3) := by decide +kernel
theorem dX0_findRing_23 : decode cX0_findRing 23 = .ok (.istore_n 2, 1) := by decide +kernel
theorem dX0_findRing_24 : decode cX0_findRing 24 = .ok (.iload_n 2, 1) := by decide +kernel
theorem dX0_findRing_25 : decode cX0_findRing 25 = .ok (.bipush 16, 2) := by decide +kernel
theorem dX0_findRing_27 : decode cX0_findRing 27 = .ok (.if_icmp .gt 24, 3) := by decide +kernel
theorem dX0_findRing_30 : decode cX0_findRing 30 = .ok (.aload_n 0, 1) := by decide +kernel
theorem dX0_findRing_31 : decode cX0_findRing 31 = .ok (.getfield 40, 3) := by decide +kernel
theorem dX0_findRing_34 : decode cX0_findRing 34 = .ok (.ifCond .eq 11, 3) := by decide +kernel
theorem dX0_findRing_37 : decode cX0_findRing 37 = .ok (.iload_n 2, 1) := by decide +kernel
theorem dX0_findRing_38 : decode cX0_findRing 38 = .ok (.aload_n 0, 1) := by decide +kernel
theorem dX0_findRing_39 : decode cX0_findRing 39 = .ok (.getfield 40, 3) := by decide +kernel
theorem dX0_findRing_42 : decode cX0_findRing 42 = .ok (.if_icmp .ge 9, 3) := by decide +kernel
theorem dX0_findRing_45 : decode cX0_findRing 45 = .ok (.aload_n 0, 1) := by decide +kernel
theorem dX0_findRing_46 : decode cX0_findRing 46 = .ok (.iload_n 1, 1) := by decide +kernel
theorem dX0_findRing_47 : decode cX0_findRing 47 = .ok (.iload_n 2, 1) := by decide +kernel
theorem dX0_findRing_48 : decode cX0_findRing 48 = .ok (.invokevirtual 59, 3) := by decide +kernel
theorem dX0_findRing_51 : decode cX0_findRing 51 = .ok (.iinc 1 1, 3) := by decide +kernel
theorem dX0_findRing_54 : decode cX0_findRing 54 = .ok (.goto (-47), 3) := by decide +kernel
theorem dX0_findRing_57 : decode cX0_findRing 57 = .ok (.return_, 1) := by decide +kernel
theorem dX0_measureWaysBack_0 : decode cX0_measureWaysBack 0 = .ok (.iconst 0, 1) := by decide +kernel
theorem dX0_measureWaysBack_1 : decode cX0_measureWaysBack 1 = .ok (.istore_n 2, 1) := by decide +kernel
theorem dX0_measureWaysBack_2 : decode cX0_measureWaysBack 2 = .ok (.iload_n 2, 1) := by decide +kernel
theorem dX0_measureWaysBack_3 : decode cX0_measureWaysBack 3 = .ok (.bipush 16, 2) := by decide +kernel
theorem dX0_measureWaysBack_5 : decode cX0_measureWaysBack 5 = .ok (.if_icmp .ge 17, 3) := by decide +kernel
theorem dX0_measureWaysBack_8 : decode cX0_measureWaysBack 8 = .ok (.aload_n 0, 1) := by decide +kernel
theorem dX0_measureWaysBack_9 : decode cX0_measureWaysBack 9 = .ok (.getfield 15, 3) := by decide +kernel
theorem dX0_measureWaysBack_12 : decode cX0_measureWaysBack 12 = .ok (.iload_n 2, 1) := by decide +kernel
theorem dX0_measureWaysBack_13 : decode cX0_measureWaysBack 13 = .ok (.bipush 16, 2) := by decide +kernel
theorem dX0_measureWaysBack_15 : decode cX0_measureWaysBack 15 = .ok (.iastore, 1) := by decide +kernel
theorem dX0_measureWaysBack_16 : decode cX0_measureWaysBack 16 = .ok (.iinc 2 1, 3) := by decide +kernel
theorem dX0_measureWaysBack_19 : decode cX0_measureWaysBack 19 = .ok (.goto (-17), 3) := by decide +kernel
theorem dX0_measureWaysBack_22 : decode cX0_measureWaysBack 22 = .ok (.aload_n 0, 1) := by decide +kernel
theorem dX0_measureWaysBack_23 : decode cX0_measureWaysBack 23 = .ok (.getfield 15, 3) := by decide +kernel
theorem dX0_measureWaysBack_26 : decode cX0_measureWaysBack 26 = .ok (.iload_n 1, 1) := by decide +kernel
theorem dX0_measureWaysBack_27 : decode cX0_measureWaysBack 27 = .ok (.iconst 0, 1) := by decide +kernel
theorem dX0_measureWaysBack_28 : decode cX0_measureWaysBack 28 = .ok (.iastore, 1) := by decide +kernel
theorem dX0_measureWaysBack_29 : decode cX0_measureWaysBack 29 = .ok (.iconst 1, 1) := by decide +kernel
theorem dX0_measureWaysBack_30 : decode cX0_measureWaysBack 30 = .ok (.iload_n 1, 1) := by decide +kernel
theorem dX0_measureWaysBack_31 : decode cX0_measureWaysBack 31 = .ok (.ishl, 1) := by decide +kernel
theorem dX0_measureWaysBack_32 : decode cX0_measureWaysBack 32 = .ok (.istore_n 2, 1) := by decide +kernel
theorem dX0_measureWaysBack_33 : decode cX0_measureWaysBack 33 = .ok (.iconst 1, 1) := by decide +kernel
theorem dX0_measureWaysBack_34 : decode cX0_measureWaysBack 34 = .ok (.istore_n 3, 1) := by decide +kernel
theorem dX0_measureWaysBack_35 : decode cX0_measureWaysBack 35 = .ok (.iload_n 3, 1) := by decide +kernel
theorem dX0_measureWaysBack_36 : decode cX0_measureWaysBack 36 = .ok (.bipush 16, 2) := by decide +kernel
theorem dX0_measureWaysBack_38 : decode cX0_measureWaysBack 38 = .ok (.if_icmp .ge 21, 3) := by decide +kernel
theorem dX0_measureWaysBack_41 : decode cX0_measureWaysBack 41 = .ok (.iload_n 2, 1) := by decide +kernel
theorem dX0_measureWaysBack_42 : decode cX0_measureWaysBack 42 = .ok (.ifCond .eq 17, 3) := by decide +kernel
theorem dX0_measureWaysBack_45 : decode cX0_measureWaysBack 45 = .ok (.aload_n 0, 1) := by decide +kernel
theorem dX0_measureWaysBack_46 : decode cX0_measureWaysBack 46 = .ok (.iload_n 1, 1) := by decide +kernel
theorem dX0_measureWaysBack_47 : decode cX0_measureWaysBack 47 = .ok (.iload_n 2, 1) := by decide +kernel
theorem dX0_measureWaysBack_48 : decode cX0_measureWaysBack 48 = .ok (.iload_n 3, 1) := by decide +kernel
theorem dX0_measureWaysBack_49 : decode cX0_measureWaysBack 49 = .ok (.invokevirtual 63, 3) := by decide +kernel
theorem dX0_measureWaysBack_52 : decode cX0_measureWaysBack 52 = .ok (.istore_n 2, 1) := by decide +kernel
theorem dX0_measureWaysBack_53 : decode cX0_measureWaysBack 53 = .ok (.iinc 3 1, 3) := by decide +kernel
theorem dX0_measureWaysBack_56 : decode cX0_measureWaysBack 56 = .ok (.goto (-21), 3) := by decide +kernel
theorem dX0_measureWaysBack_59 : decode cX0_measureWaysBack 59 = .ok (.return_, 1) := by decide +kernel
theorem dX0_stepBack_0 : decode cX0_stepBack 0 = .ok (.iconst 0, 1) := by decide +kernel
theorem dX0_stepBack_1 : decode cX0_stepBack 1 = .ok (.istore 4, 2) := by decide +kernel
theorem dX0_stepBack_3 : decode cX0_stepBack 3 = .ok (.iload_n 1, 1) := by decide +kernel
theorem dX0_stepBack_4 : decode cX0_stepBack 4 = .ok (.iconst 1, 1) := by decide +kernel
theorem dX0_stepBack_5 : decode cX0_stepBack 5 = .ok (.iadd, 1) := by decide +kernel
theorem dX0_stepBack_6 : decode cX0_stepBack 6 = .ok (.istore 5, 2) := by decide +kernel
theorem dX0_stepBack_8 : decode cX0_stepBack 8 = .ok (.iload 5, 2) := by decide +kernel
theorem dX0_stepBack_10 : decode cX0_stepBack 10 = .ok (.bipush 16, 2) := by decide +kernel
theorem dX0_stepBack_12 : decode cX0_stepBack 12 = .ok (.if_icmp .ge 50, 3) := by decide +kernel
theorem dX0_stepBack_15 : decode cX0_stepBack 15 = .ok (.aload_n 0, 1) := by decide +kernel
theorem dX0_stepBack_16 : decode cX0_stepBack 16 = .ok (.getfield 15, 3) := by decide +kernel
theorem dX0_stepBack_19 : decode cX0_stepBack 19 = .ok (.iload 5, 2) := by decide +kernel
theorem dX0_stepBack_21 : decode cX0_stepBack 21 = .ok (.iaload, 1) := by decide +kernel
theorem dX0_stepBack_22 : decode cX0_stepBack 22 = .ok (.bipush 16, 2) := by decide +kernel
theorem dX0_stepBack_24 : decode cX0_stepBack 24 = .ok (.if_icmp .ne 32, 3) := by decide +kernel
theorem dX0_stepBack_27 : decode cX0_stepBack 27 = .ok (.aload_n 0, 1) := by decide +kernel
theorem dX0_stepBack_28 : decode cX0_stepBack 28 = .ok (.getfield 9, 3) := by decide +kernel
theorem dX0_stepBack_31 : decode cX0_stepBack 31 = .ok (.iload 5, 2) := by decide +kernel
theorem dX0_stepBack_33 : decode cX0_stepBack 33 = .ok (.iaload, 1) := by decide +kernel
theorem dX0_stepBack_34 : decode cX0_stepBack 34 = .ok (.iload_n 2, 1) := by decide +kernel
theorem dX0_stepBack_35 : decode cX0_stepBack 35 = .ok (.iand, 1) := by decide +kernel
theorem dX0_stepBack_36 : decode cX0_stepBack 36 = .ok (.ifCond .eq 20, 3) := by decide +kernel
theorem dX0_stepBack_39 : decode cX0_stepBack 39 = .ok (.aload_n 0, 1) := by decide +kernel
theorem dX0_stepBack_40 : decode cX0_stepBack 40 = .ok (.getfield 15, 3) := by decide +kernel
theorem dX0_stepBack_43 : decode cX0_stepBack 43 = .ok (.iload 5, 2) := by decide +kernel
theorem dX0_stepBack_45 : decode cX0_stepBack 45 = .ok (.iload_n 3, 1) := by decide +kernel
theorem dX0_stepBack_46 : decode cX0_stepBack 46 = .ok (.iastore, 1) := by decide +kernel
theorem dX0_stepBack_47 : decode cX0_stepBack 47 = .ok (.iload 4, 2) := by decide +kernel
theorem dX0_stepBack_49 : decode cX0_stepBack 49 = .ok (.iconst 1, 1) := by decide +kernel
theorem dX0_stepBack_50 : decode cX0_stepBack 50 = .ok (.iload 5, 2) := by decide +kernel
theorem dX0_stepBack_52 : decode cX0_stepBack 52 = .ok (.ishl, 1) := by decide +kernel
theorem dX0_stepBack_53 : decode cX0_stepBack 53 = .ok (.ior, 1) := by decide +kernel
theorem dX0_stepBack_54 : decode cX0_stepBack 54 = .ok (.istore 4, 2) := by decide +kernel
theorem dX0_stepBack_56 : decode cX0_stepBack 56 = .ok (.iinc 5 1, 3) := by decide +kernel
theorem dX0_stepBack_59 : decode cX0_stepBack 59 = .ok (.goto (-51), 3) := by decide +kernel
theorem dX0_stepBack_62 : decode cX0_stepBack 62 = .ok (.iload 4, 2) := by decide +kernel
theorem dX0_stepBack_64 : decode cX0_stepBack 64 = .ok (.ireturn, 1) := by decide +kernel
theorem dX0_sizeOfRingFrom_0 : decode cX0_sizeOfRingFrom 0 = .ok (.bipush 16, 2) := by decide +kernel
theorem dX0_sizeOfRingFrom_2 : decode cX0_sizeOfRingFrom 2 = .ok (.istore_n 2, 1) := by decide +kernel
theorem dX0_sizeOfRingFrom_3 : decode cX0_sizeOfRingFrom 3 = .ok (.iload_n 1, 1) := by decide +kernel
theorem dX0_sizeOfRingFrom_4 : decode cX0_sizeOfRingFrom 4 = .ok (.iconst 1, 1) := by decide +kernel
theorem dX0_sizeOfRingFrom_5 : decode cX0_sizeOfRingFrom 5 = .ok (.iadd, 1) := by decide +kernel
theorem dX0_sizeOfRingFrom_6 : decode cX0_sizeOfRingFrom 6 = .ok (.istore_n 3, 1) := by decide +kernel
theorem dX0_sizeOfRingFrom_7 : decode cX0_sizeOfRingFrom 7 = .ok (.iload_n 3, 1) := by decide +kernel
theorem dX0_sizeOfRingFrom_8 : decode cX0_sizeOfRingFrom 8 = .ok (.bipush 16, 2) := by decide +kernel
theorem dX0_sizeOfRingFrom_10 : decode cX0_sizeOfRingFrom 10 = .ok (.if_icmp .ge 33, 3) := by decide +kernel
theorem dX0_sizeOfRingFrom_13 : decode cX0_sizeOfRingFrom 13 = .ok (.aload_n 0, 1) := by decide +kernel
theorem dX0_sizeOfRingFrom_14 : decode cX0_sizeOfRingFrom 14 = .ok (.getfield 9, 3) := by decide +kernel
theorem dX0_sizeOfRingFrom_17 : decode cX0_sizeOfRingFrom 17 = .ok (.iload_n 1, 1) := by decide +kernel
theorem dX0_sizeOfRingFrom_18 : decode cX0_sizeOfRingFrom 18 = .ok (.iaload, 1) := by decide +kernel
theorem dX0_sizeOfRingFrom_19 : decode cX0_sizeOfRingFrom 19 = .ok (.iload_n 3, 1) := by decide +kernel
theorem dX0_sizeOfRingFrom_20 : decode cX0_sizeOfRingFrom 20 = .ok (.invokestatic 67, 3) := by decide +kernel
theorem dX0_sizeOfRingFrom_23 : decode cX0_sizeOfRingFrom 23 = .ok (.ifCond .eq 14, 3) := by decide +kernel
theorem dX0_sizeOfRingFrom_26 : decode cX0_sizeOfRingFrom 26 = .ok (.iload_n 2, 1) := by decide +kernel
theorem dX0_sizeOfRingFrom_27 : decode cX0_sizeOfRingFrom 27 = .ok (.aload_n 0, 1) := by decide +kernel
theorem dX0_sizeOfRingFrom_28 : decode cX0_sizeOfRingFrom 28 = .ok (.getfield 15, 3) := by decide +kernel
theorem dX0_sizeOfRingFrom_31 : decode cX0_sizeOfRingFrom 31 = .ok (.iload_n 3, 1) := by decide +kernel
theorem dX0_sizeOfRingFrom_32 : decode cX0_sizeOfRingFrom 32 = .ok (.iaload, 1) := by decide +kernel
theorem dX0_sizeOfRingFrom_33 : decode cX0_sizeOfRingFrom 33 = .ok (.invokestatic 71, 3) := by decide +kernel
theorem dX0_sizeOfRingFrom_36 : decode cX0_sizeOfRingFrom 36 = .ok (.istore_n 2, 1) := by decide +kernel
theorem dX0_sizeOfRingFrom_37 : decode cX0_sizeOfRingFrom 37 = .ok (.iinc 3 1, 3) := by decide +kernel
theorem dX0_sizeOfRingFrom_40 : decode cX0_sizeOfRingFrom 40 = .ok (.goto (-33), 3) := by decide +kernel
theorem dX0_sizeOfRingFrom_43 : decode cX0_sizeOfRingFrom 43 = .ok (.iload_n 2, 1) := by decide +kernel
theorem dX0_sizeOfRingFrom_44 : decode cX0_sizeOfRingFrom 44 = .ok (.iconst 1, 1) := by decide +kernel
theorem dX0_sizeOfRingFrom_45 : decode cX0_sizeOfRingFrom 45 = .ok (.iadd, 1) := by decide +kernel
theorem dX0_sizeOfRingFrom_46 : decode cX0_sizeOfRingFrom 46 = .ok (.ireturn, 1) := by decide +kernel
theorem dX0_keepRing_0 : decode cX0_keepRing 0 = .ok (.iload_n 1, 1) := by decide +kernel
theorem dX0_keepRing_1 : decode cX0_keepRing 1 = .ok (.istore_n 3, 1) := by decide +kernel
theorem dX0_keepRing_2 : decode cX0_keepRing 2 = .ok (.aload_n 0, 1) := by decide +kernel
theorem dX0_keepRing_3 : decode cX0_keepRing 3 = .ok (.getfield 18, 3) := by decide +kernel
theorem dX0_keepRing_6 : decode cX0_keepRing 6 = .ok (.iconst 0, 1) := by decide +kernel
theorem dX0_keepRing_7 : decode cX0_keepRing 7 = .ok (.iload_n 1, 1) := by decide +kernel
theorem dX0_keepRing_8 : decode cX0_keepRing 8 = .ok (.iastore, 1) := by decide +kernel
theorem dX0_keepRing_9 : decode cX0_keepRing 9 = .ok (.iconst 1, 1) := by decide +kernel
theorem dX0_keepRing_10 : decode cX0_keepRing 10 = .ok (.istore 4, 2) := by decide +kernel
theorem dX0_keepRing_12 : decode cX0_keepRing 12 = .ok (.iload 4, 2) := by decide +kernel
theorem dX0_keepRing_14 : decode cX0_keepRing 14 = .ok (.iload_n 2, 1) := by decide +kernel
theorem dX0_keepRing_15 : decode cX0_keepRing 15 = .ok (.if_icmp .ge 27, 3) := by decide +kernel
theorem dX0_keepRing_18 : decode cX0_keepRing 18 = .ok (.aload_n 0, 1) := by decide +kernel
theorem dX0_keepRing_19 : decode cX0_keepRing 19 = .ok (.iload_n 3, 1) := by decide +kernel
theorem dX0_keepRing_20 : decode cX0_keepRing 20 = .ok (.iload_n 2, 1) := by decide +kernel
theorem dX0_keepRing_21 : decode cX0_keepRing 21 = .ok (.iload 4, 2) := by decide +kernel
theorem dX0_keepRing_23 : decode cX0_keepRing 23 = .ok (.isub, 1) := by decide +kernel
theorem dX0_keepRing_24 : decode cX0_keepRing 24 = .ok (.invokevirtual 77, 3) := by decide +kernel
theorem dX0_keepRing_27 : decode cX0_keepRing 27 = .ok (.istore_n 3, 1) := by decide +kernel
theorem dX0_keepRing_28 : decode cX0_keepRing 28 = .ok (.aload_n 0, 1) := by decide +kernel
theorem dX0_keepRing_29 : decode cX0_keepRing 29 = .ok (.getfield 18, 3) := by decide +kernel
theorem dX0_keepRing_32 : decode cX0_keepRing 32 = .ok (.iload 4, 2) := by decide +kernel
theorem dX0_keepRing_34 : decode cX0_keepRing 34 = .ok (.iload_n 3, 1) := by decide +kernel
theorem dX0_keepRing_35 : decode cX0_keepRing 35 = .ok (.iastore, 1) := by decide +kernel
theorem dX0_keepRing_36 : decode cX0_keepRing 36 = .ok (.iinc 4 1, 3) := by decide +kernel
theorem dX0_keepRing_39 : decode cX0_keepRing 39 = .ok (.goto (-27), 3) := by decide +kernel
theorem dX0_keepRing_42 : decode cX0_keepRing 42 = .ok (.aload_n 0, 1) := by decide +kernel
theorem dX0_keepRing_43 : decode cX0_keepRing 43 = .ok (.iload_n 2, 1) := by decide +kernel
theorem dX0_keepRing_44 : decode cX0_keepRing 44 = .ok (.putfield 40, 3) := by decide +kernel
theorem dX0_keepRing_47 : decode cX0_keepRing 47 = .ok (.return_, 1) := by decide +kernel
theorem dX0_lowestBehind_0 : decode cX0_lowestBehind 0 = .ok (.iconst 0, 1) := by decide +kernel
theorem dX0_lowestBehind_1 : decode cX0_lowestBehind 1 = .ok (.istore_n 3, 1) := by decide +kernel
theorem dX0_lowestBehind_2 : decode cX0_lowestBehind 2 = .ok (.iload_n 3, 1) := by decide +kernel
theorem dX0_lowestBehind_3 : decode cX0_lowestBehind 3 = .ok (.bipush 16, 2) := by decide +kernel
theorem dX0_lowestBehind_5 : decode cX0_lowestBehind 5 = .ok (.if_icmp .ge 34, 3) := by decide +kernel
theorem dX0_lowestBehind_8 : decode cX0_lowestBehind 8 = .ok (.aload_n 0, 1) := by decide +kernel
theorem dX0_lowestBehind_9 : decode cX0_lowestBehind 9 = .ok (.getfield 9, 3) := by decide +kernel
theorem dX0_lowestBehind_12 : decode cX0_lowestBehind 12 = .ok (.iload_n 1, 1) := by decide +kernel
theorem dX0_lowestBehind_13 : decode cX0_lowestBehind 13 = .ok (.iaload, 1) := by decide +kernel
theorem dX0_lowestBehind_14 : decode cX0_lowestBehind 14 = .ok (.iload_n 3, 1) := by decide +kernel
theorem dX0_lowestBehind_15 : decode cX0_lowestBehind 15 = .ok (.invokestatic 67, 3) := by decide +kernel
theorem dX0_lowestBehind_18 : decode cX0_lowestBehind 18 = .ok (.ifCond .eq 15, 3) := by decide +kernel
theorem dX0_lowestBehind_21 : decode cX0_lowestBehind 21 = .ok (.aload_n 0, 1) := by decide +kernel
theorem dX0_lowestBehind_22 : decode cX0_lowestBehind 22 = .ok (.getfield 15, 3) := by decide +kernel
theorem dX0_lowestBehind_25 : decode cX0_lowestBehind 25 = .ok (.iload_n 3, 1) := by decide +kernel
theorem dX0_lowestBehind_26 : decode cX0_lowestBehind 26 = .ok (.iaload, 1) := by decide +kernel
theorem dX0_lowestBehind_27 : decode cX0_lowestBehind 27 = .ok (.iload_n 2, 1) := by decide +kernel
theorem dX0_lowestBehind_28 : decode cX0_lowestBehind 28 = .ok (.if_icmp .ne 5, 3) := by decide +kernel
theorem dX0_lowestBehind_31 : decode cX0_lowestBehind 31 = .ok (.iload_n 3, 1) := by decide +kernel
theorem dX0_lowestBehind_32 : decode cX0_lowestBehind 32 = .ok (.ireturn, 1) := by decide +kernel
theorem dX0_lowestBehind_33 : decode cX0_lowestBehind 33 = .ok (.iinc 3 1, 3) := by decide +kernel
theorem dX0_lowestBehind_36 : decode cX0_lowestBehind 36 = .ok (.goto (-34), 3) := by decide +kernel
theorem dX0_lowestBehind_39 : decode cX0_lowestBehind 39 = .ok (.iload_n 1, 1) := by decide +kernel
theorem dX0_lowestBehind_40 : decode cX0_lowestBehind 40 = .ok (.ireturn, 1) := by decide +kernel
theorem dX1_init_0 : decode cX1_init 0 = .ok (.aload_n 0, 1) := by decide +kernel
theorem dX1_init_1 : decode cX1_init 1 = .ok (.invokespecial 3, 3) := by decide +kernel
theorem dX1_init_4 : decode cX1_init 4 = .ok (.aload_n 0, 1) := by decide +kernel
theorem dX1_init_5 : decode cX1_init 5 = .ok (.iload_n 1, 1) := by decide +kernel
theorem dX1_init_6 : decode cX1_init 6 = .ok (.putfield 9, 3) := by decide +kernel
theorem dX1_init_9 : decode cX1_init 9 = .ok (.aload_n 0, 1) := by decide +kernel
theorem dX1_init_10 : decode cX1_init 10 = .ok (.bipush 24, 2) := by decide +kernel
theorem dX1_init_12 : decode cX1_init 12 = .ok (.anewarray 15, 3) := by decide +kernel
theorem dX1_init_15 : decode cX1_init 15 = .ok (.putfield 17, 3) := by decide +kernel
theorem dX1_init_18 : decode cX1_init 18 = .ok (.aload_n 0, 1) := by decide +kernel
theorem dX1_init_19 : decode cX1_init 19 = .ok (.bipush 16, 2) := by decide +kernel
theorem dX1_init_21 : decode cX1_init 21 = .ok (.newarray .int, 2) := by decide +kernel
theorem dX1_init_23 : decode cX1_init 23 = .ok (.putfield 21, 3) := by decide +kernel
theorem dX1_init_26 : decode cX1_init 26 = .ok (.iconst 0, 1) := by decide +kernel
theorem dX1_init_27 : decode cX1_init 27 = .ok (.istore_n 2, 1) := by decide +kernel
theorem dX1_init_28 : decode cX1_init 28 = .ok (.iload_n 2, 1) := by decide +kernel
theorem dX1_init_29 : decode cX1_init 29 = .ok (.bipush 16, 2) := by decide +kernel
theorem dX1_init_31 : decode cX1_init 31 = .ok (.if_icmp .ge 16, 3) := by decide +kernel
theorem dX1_init_34 : decode cX1_init 34 = .ok (.aload_n 0, 1) := by decide +kernel
theorem dX1_init_35 : decode cX1_init 35 = .ok (.getfield 21, 3) := by decide +kernel
theorem dX1_init_38 : decode cX1_init 38 = .ok (.iload_n 2, 1) := by decide +kernel
theorem dX1_init_39 : decode cX1_init 39 = .ok (.iconst (-1), 1) := by decide +kernel
theorem dX1_init_40 : decode cX1_init 40 = .ok (.iastore, 1) := by decide +kernel
theorem dX1_init_41 : decode cX1_init 41 = .ok (.iinc 2 1, 3) := by decide +kernel
theorem dX1_init_44 : decode cX1_init 44 = .ok (.goto (-16), 3) := by decide +kernel
theorem dX1_init_47 : decode cX1_init 47 = .ok (.aload_n 0, 1) := by decide +kernel
theorem dX1_init_48 : decode cX1_init 48 = .ok (.bipush 24, 2) := by decide +kernel
theorem dX1_init_50 : decode cX1_init 50 = .ok (.newarray .int, 2) := by decide +kernel
theorem dX1_init_52 : decode cX1_init 52 = .ok (.putfield 25, 3) := by decide +kernel
theorem dX1_init_55 : decode cX1_init 55 = .ok (.aload_n 0, 1) := by decide +kernel
theorem dX1_init_56 : decode cX1_init 56 = .ok (.bipush 24, 2) := by decide +kernel
theorem dX1_init_58 : decode cX1_init 58 = .ok (.newarray .int, 2) := by decide +kernel
theorem dX1_init_60 : decode cX1_init 60 = .ok (.putfield 28, 3) := by decide +kernel
theorem dX1_init_63 : decode cX1_init 63 = .ok (.aload_n 0, 1) := by decide +kernel
theorem dX1_init_64 : decode cX1_init 64 = .ok (.sipush 576, 3) := by decide +kernel
theorem dX1_init_67 : decode cX1_init 67 = .ok (.newarray .byte, 2) := by decide +kernel
theorem dX1_init_69 : decode cX1_init 69 = .ok (.putfield 31, 3) := by decide +kernel
theorem dX1_init_72 : decode cX1_init 72 = .ok (.aload_n 0, 1) := by decide +kernel
theorem dX1_init_73 : decode cX1_init 73 = .ok (.bipush 13, 2) := by decide +kernel
theorem dX1_init_75 : decode cX1_init 75 = .ok (.newarray .int, 2) := by decide +kernel
theorem dX1_init_77 : decode cX1_init 77 = .ok (.putfield 35, 3) := by decide +kernel
theorem dX1_init_80 : decode cX1_init 80 = .ok (.aload_n 0, 1) := by decide +kernel
theorem dX1_init_81 : decode cX1_init 81 = .ok (.iconst (-1), 1) := by decide +kernel
theorem dX1_init_82 : decode cX1_init 82 = .ok (.putfield 38, 3) := by decide +kernel
theorem dX1_init_85 : decode cX1_init 85 = .ok (.return_, 1) := by decide +kernel
theorem dX1_keep_0 : decode cX1_keep 0 = .ok (.aload_n 1, 1) := by decide +kernel
theorem dX1_keep_1 : decode cX1_keep 1 = .ok (.getfield 41, 3) := by decide +kernel
theorem dX1_keep_4 : decode cX1_keep 4 = .ok (.invokestatic 44, 3) := by decide +kernel
theorem dX1_keep_7 : decode cX1_keep 7 = .ok (.ifCond .ne 4, 3) := by decide +kernel
theorem dX1_keep_10 : decode cX1_keep 10 = .ok (.return_, 1) := by decide +kernel
theorem dX1_keep_11 : decode cX1_keep 11 = .ok (.aload_n 0, 1) := by decide +kernel
theorem dX1_keep_12 : decode cX1_keep 12 = .ok (.aload_n 1, 1) := by decide +kernel
theorem dX1_keep_13 : decode cX1_keep 13 = .ok (.invokevirtual 48, 3) := by decide +kernel
theorem dX1_keep_16 : decode cX1_keep 16 = .ok (.aload_n 0, 1) := by decide +kernel
theorem dX1_keep_17 : decode cX1_keep 17 = .ok (.getfield 17, 3) := by decide +kernel
theorem dX1_keep_20 : decode cX1_keep 20 = .ok (.aload_n 1, 1) := by decide +kernel
theorem dX1_keep_21 : decode cX1_keep 21 = .ok (.getfield 41, 3) := by decide +kernel
theorem dX1_keep_24 : decode cX1_keep 24 = .ok (.aload_n 1, 1) := by decide +kernel
theorem dX1_keep_25 : decode cX1_keep 25 = .ok (.aastore, 1) := by decide +kernel
theorem dX1_keep_26 : decode cX1_keep 26 = .ok (.aload_n 0, 1) := by decide +kernel
theorem dX1_keep_27 : decode cX1_keep 27 = .ok (.dup, 1) := by decide +kernel
theorem dX1_keep_28 : decode cX1_keep 28 = .ok (.getfield 52, 3) := by decide +kernel
theorem dX1_keep_31 : decode cX1_keep 31 = .ok (.iconst 1, 1) := by decide +kernel
theorem dX1_keep_32 : decode cX1_keep 32 = .ok (.iadd, 1) := by decide +kernel
theorem dX1_keep_33 : decode cX1_keep 33 = .ok (.putfield 52, 3) := by decide +kernel
theorem dX1_keep_36 : decode cX1_keep 36 = .ok (.aload_n 1, 1) := by decide +kernel
theorem dX1_keep_37 : decode cX1_keep 37 = .ok (.invokevirtual 55, 3) := by decide +kernel
theorem dX1_keep_40 : decode cX1_keep 40 = .ok (.ifCond .eq 13, 3) := by decide +kernel
theorem dX1_keep_43 : decode cX1_keep 43 = .ok (.aload_n 0, 1) := by decide +kernel
theorem dX1_keep_44 : decode cX1_keep 44 = .ok (.dup, 1) := by decide +kernel
theorem dX1_keep_45 : decode cX1_keep 45 = .ok (.getfield 59, 3) := by decide +kernel
theorem dX1_keep_48 : decode cX1_keep 48 = .ok (.iconst 1, 1) := by decide +kernel
theorem dX1_keep_49 : decode cX1_keep 49 = .ok (.iadd, 1) := by decide +kernel
theorem dX1_keep_50 : decode cX1_keep 50 = .ok (.putfield 59, 3) := by decide +kernel
theorem dX1_keep_53 : decode cX1_keep 53 = .ok (.iconst 0, 1) := by decide +kernel
theorem dX1_keep_54 : decode cX1_keep 54 = .ok (.istore_n 2, 1) := by decide +kernel
theorem dX1_keep_55 : decode cX1_keep 55 = .ok (.iload_n 2, 1) := by decide +kernel
theorem dX1_keep_56 : decode cX1_keep 56 = .ok (.bipush 16, 2) := by decide +kernel
theorem dX1_keep_58 : decode cX1_keep 58 = .ok (.if_icmp .ge 37, 3) := by decide +kernel
theorem dX1_keep_61 : decode cX1_keep 61 = .ok (.aload_n 1, 1) := by decide +kernel
theorem dX1_keep_62 : decode cX1_keep 62 = .ok (.iload_n 2, 1) := by decide +kernel
theorem dX1_keep_63 : decode cX1_keep 63 = .ok (.invokevirtual 62, 3) := by decide +kernel
theorem dX1_keep_66 : decode cX1_keep 66 = .ok (.ifCond .eq 23, 3) := by decide +kernel
theorem dX1_keep_69 : decode cX1_keep 69 = .ok (.aload_n 0, 1) := by decide +kernel
theorem dX1_keep_70 : decode cX1_keep 70 = .ok (.getfield 21, 3) := by decide +kernel
theorem dX1_keep_73 : decode cX1_keep 73 = .ok (.iload_n 2, 1) := by decide +kernel
theorem dX1_keep_74 : decode cX1_keep 74 = .ok (.aload_n 1, 1) := by decide +kernel
theorem dX1_keep_75 : decode cX1_keep 75 = .ok (.getfield 41, 3) := by decide +kernel
theorem dX1_keep_78 : decode cX1_keep 78 = .ok (.iastore, 1) := by decide +kernel
theorem dX1_keep_79 : decode cX1_keep 79 = .ok (.aload_n 0, 1) := by decide +kernel
theorem dX1_keep_80 : decode cX1_keep 80 = .ok (.dup, 1) := by decide +kernel
theorem dX1_keep_81 : decode cX1_keep 81 = .ok (.getfield 65, 3) := by decide +kernel
theorem dX1_keep_84 : decode cX1_keep 84 = .ok (.iconst 1, 1) := by decide +kernel
theorem dX1_keep_85 : decode cX1_keep 85 = .ok (.iadd, 1) := by decide +kernel
theorem dX1_keep_86 : decode cX1_keep 86 = .ok (.putfield 65, 3) := by decide +kernel
theorem dX1_keep_89 : decode cX1_keep 89 = .ok (.iinc 2 1, 3) := by decide +kernel
theorem dX1_keep_92 : decode cX1_keep 92 = .ok (.goto (-37), 3) := by decide +kernel
theorem dX1_keep_95 : decode cX1_keep 95 = .ok (.return_, 1) := by decide +kernel
theorem dX1_measureFrom_0 : decode cX1_measureFrom 0 = .ok (.aload_n 0, 1) := by decide +kernel
theorem dX1_measureFrom_1 : decode cX1_measureFrom 1 = .ok (.getfield 17, 3) := by decide +kernel
theorem dX1_measureFrom_4 : decode cX1_measureFrom 4 = .ok (.astore_n 2, 1) := by decide +kernel
theorem dX1_measureFrom_5 : decode cX1_measureFrom 5 = .ok (.aload_n 2, 1) := by decide +kernel
theorem dX1_measureFrom_6 : decode cX1_measureFrom 6 = .ok (.arraylength, 1) := by decide +kernel
theorem dX1_measureFrom_7 : decode cX1_measureFrom 7 = .ok (.istore_n 3, 1) := by decide +kernel
theorem dX1_measureFrom_8 : decode cX1_measureFrom 8 = .ok (.iconst 0, 1) := by decide +kernel
theorem dX1_measureFrom_9 : decode cX1_measureFrom 9 = .ok (.istore 4, 2) := by decide +kernel
theorem dX1_measureFrom_11 : decode cX1_measureFrom 11 = .ok (.iload 4, 2) := by decide +kernel
theorem dX1_measureFrom_13 : decode cX1_measureFrom 13 = .ok (.iload_n 3, 1) := by decide +kernel
theorem dX1_measureFrom_14 : decode cX1_measureFrom 14 = .ok (.if_icmp .ge 73, 3) := by decide +kernel
theorem dX1_measureFrom_17 : decode cX1_measureFrom 17 = .ok (.aload_n 2, 1) := by decide +kernel
theorem dX1_measureFrom_18 : decode cX1_measureFrom 18 = .ok (.iload 4, 2) := by decide +kernel
theorem dX1_measureFrom_20 : decode cX1_measureFrom 20 = .ok (.aaload, 1) := by decide +kernel
theorem dX1_measureFrom_21 : decode cX1_measureFrom 21 = .ok (.astore 5, 2) := by decide +kernel
theorem dX1_measureFrom_23 : decode cX1_measureFrom 23 = .ok (.aload 5, 2) := by decide +kernel
theorem dX1_measureFrom_25 : decode cX1_measureFrom 25 = .ok (.ifnull 56, 3) := by decide +kernel
theorem dX1_measureFrom_28 : decode cX1_measureFrom 28 = .ok (.aload_n 1, 1) := by decide +kernel
theorem dX1_measureFrom_29 : decode cX1_measureFrom 29 = .ok (.aload 5, 2) := by decide +kernel
theorem dX1_measureFrom_31 : decode cX1_measureFrom 31 = .ok (.aload_n 0, 1) := by decide +kernel
theorem dX1_measureFrom_32 : decode cX1_measureFrom 32 = .ok (.getfield 35, 3) := by decide +kernel
theorem dX1_measureFrom_35 : decode cX1_measureFrom 35 = .ok (.invokevirtual 68, 3) := by decide +kernel
theorem dX1_measureFrom_38 : decode cX1_measureFrom 38 = .ok (.i2b, 1) := by decide +kernel
theorem dX1_measureFrom_39 : decode cX1_measureFrom 39 = .ok (.istore 6, 2) := by decide +kernel
theorem dX1_measureFrom_41 : decode cX1_measureFrom 41 = .ok (.aload_n 0, 1) := by decide +kernel
theorem dX1_measureFrom_42 : decode cX1_measureFrom 42 = .ok (.getfield 31, 3) := by decide +kernel
theorem dX1_measureFrom_45 : decode cX1_measureFrom 45 = .ok (.aload_n 1, 1) := by decide +kernel
theorem dX1_measureFrom_46 : decode cX1_measureFrom 46 = .ok (.getfield 41, 3) := by decide +kernel
theorem dX1_measureFrom_49 : decode cX1_measureFrom 49 = .ok (.bipush 24, 2) := by decide +kernel
theorem dX1_measureFrom_51 : decode cX1_measureFrom 51 = .ok (.imul, 1) := by decide +kernel
theorem dX1_measureFrom_52 : decode cX1_measureFrom 52 = .ok (.aload 5, 2) := by decide +kernel
theorem dX1_measureFrom_54 : decode cX1_measureFrom 54 = .ok (.getfield 41, 3) := by decide +kernel
theorem dX1_measureFrom_57 : decode cX1_measureFrom 57 = .ok (.iadd, 1) := by decide +kernel
theorem dX1_measureFrom_58 : decode cX1_measureFrom 58 = .ok (.iload 6, 2) := by decide +kernel
theorem dX1_measureFrom_60 : decode cX1_measureFrom 60 = .ok (.bastore, 1) := by decide +kernel
theorem dX1_measureFrom_61 : decode cX1_measureFrom 61 = .ok (.aload_n 0, 1) := by decide +kernel
theorem dX1_measureFrom_62 : decode cX1_measureFrom 62 = .ok (.getfield 31, 3) := by decide +kernel
theorem dX1_measureFrom_65 : decode cX1_measureFrom 65 = .ok (.aload 5, 2) := by decide +kernel
theorem dX1_measureFrom_67 : decode cX1_measureFrom 67 = .ok (.getfield 41, 3) := by decide +kernel
theorem dX1_measureFrom_70 : decode cX1_measureFrom 70 = .ok (.bipush 24, 2) := by decide +kernel
theorem dX1_measureFrom_72 : decode cX1_measureFrom 72 = .ok (.imul, 1) := by decide +kernel
theorem dX1_measureFrom_73 : decode cX1_measureFrom 73 = .ok (.aload_n 1, 1) := by decide +kernel
theorem dX1_measureFrom_74 : decode cX1_measureFrom 74 = .ok (.getfield 41, 3) := by decide +kernel
theorem dX1_measureFrom_77 : decode cX1_measureFrom 77 = .ok (.iadd, 1) := by decide +kernel
theorem dX1_measureFrom_78 : decode cX1_measureFrom 78 = .ok (.iload 6, 2) := by decide +kernel
theorem dX1_measureFrom_80 : decode cX1_measureFrom 80 = .ok (.bastore, 1) := by decide +kernel
theorem dX1_measureFrom_81 : decode cX1_measureFrom 81 = .ok (.iinc 4 1, 3) := by decide +kernel
theorem dX1_measureFrom_84 : decode cX1_measureFrom 84 = .ok (.goto (-73), 3) := by decide +kernel
theorem dX1_measureFrom_87 : decode cX1_measureFrom 87 = .ok (.return_, 1) := by decide +kernel
theorem dX1_rowOf_0 : decode cX1_rowOf 0 = .ok (.iload_n 1, 1) := by decide +kernel
theorem dX1_rowOf_1 : decode cX1_rowOf 1 = .ok (.invokestatic 44, 3) := by decide +kernel
theorem dX1_rowOf_4 : decode cX1_rowOf 4 = .ok (.ifCond .eq 12, 3) := by decide +kernel
theorem dX1_rowOf_7 : decode cX1_rowOf 7 = .ok (.aload_n 0, 1) := by decide +kernel
theorem dX1_rowOf_8 : decode cX1_rowOf 8 = .ok (.getfield 17, 3) := by decide +kernel
theorem dX1_rowOf_11 : decode cX1_rowOf 11 = .ok (.iload_n 1, 1) := by decide +kernel
theorem dX1_rowOf_12 : decode cX1_rowOf 12 = .ok (.aaload, 1) := by decide +kernel
theorem dX1_rowOf_13 : decode cX1_rowOf 13 = .ok (.goto 4, 3) := by decide +kernel
theorem dX1_rowOf_16 : decode cX1_rowOf 16 = .ok (.aconst_null, 1) := by decide +kernel
theorem dX1_rowOf_17 : decode cX1_rowOf 17 = .ok (.areturn, 1) := by decide +kernel
theorem dX1_holderOf_0 : decode cX1_holderOf 0 = .ok (.iload_n 1, 1) := by decide +kernel
theorem dX1_holderOf_1 : decode cX1_holderOf 1 = .ok (.invokestatic 72, 3) := by decide +kernel
theorem dX1_holderOf_4 : decode cX1_holderOf 4 = .ok (.ifCond .eq 12, 3) := by decide +kernel
theorem dX1_holderOf_7 : decode cX1_holderOf 7 = .ok (.aload_n 0, 1) := by decide +kernel
theorem dX1_holderOf_8 : decode cX1_holderOf 8 = .ok (.getfield 21, 3) := by decide +kernel
theorem dX1_holderOf_11 : decode cX1_holderOf 11 = .ok (.iload_n 1, 1) := by decide +kernel
theorem dX1_holderOf_12 : decode cX1_holderOf 12 = .ok (.iaload, 1) := by decide +kernel
theorem dX1_holderOf_13 : decode cX1_holderOf 13 = .ok (.goto 4, 3) := by decide +kernel
theorem dX1_holderOf_16 : decode cX1_holderOf 16 = .ok (.iconst (-1), 1) := by decide +kernel
theorem dX1_holderOf_17 : decode cX1_holderOf 17 = .ok (.ireturn, 1) := by decide +kernel
theorem dX1_awaitedBy_0 : decode cX1_awaitedBy 0 = .ok (.aload_n 0, 1) := by decide +kernel
theorem dX1_awaitedBy_1 : decode cX1_awaitedBy 1 = .ok (.iload_n 1, 1) := by decide +kernel
theorem dX1_awaitedBy_2 : decode cX1_awaitedBy 2 = .ok (.invokevirtual 75, 3) := by decide +kernel
theorem dX1_awaitedBy_5 : decode cX1_awaitedBy 5 = .ok (.astore_n 2, 1) := by decide +kernel
theorem dX1_awaitedBy_6 : decode cX1_awaitedBy 6 = .ok (.aload_n 2, 1) := by decide +kernel
theorem dX1_awaitedBy_7 : decode cX1_awaitedBy 7 = .ok (.ifnonnull 7, 3) := by decide +kernel
theorem dX1_awaitedBy_10 : decode cX1_awaitedBy 10 = .ok (.iconst (-1), 1) := by decide +kernel
theorem dX1_awaitedBy_11 : decode cX1_awaitedBy 11 = .ok (.goto 11, 3) := by decide +kernel
theorem dX1_awaitedBy_14 : decode cX1_awaitedBy 14 = .ok (.aload_n 0, 1) := by decide +kernel
theorem dX1_awaitedBy_15 : decode cX1_awaitedBy 15 = .ok (.aload_n 2, 1) := by decide +kernel
theorem dX1_awaitedBy_16 : decode cX1_awaitedBy 16 = .ok (.getfield 79, 3) := by decide +kernel
theorem dX1_awaitedBy_19 : decode cX1_awaitedBy 19 = .ok (.invokevirtual 82, 3) := by decide +kernel
theorem dX1_awaitedBy_22 : decode cX1_awaitedBy 22 = .ok (.ireturn, 1) := by decide +kernel
theorem dX1_countRings_0 : decode cX1_countRings 0 = .ok (.iconst 0, 1) := by decide +kernel
theorem dX1_countRings_1 : decode cX1_countRings 1 = .ok (.istore_n 1, 1) := by decide +kernel
theorem dX1_countRings_2 : decode cX1_countRings 2 = .ok (.iconst 0, 1) := by decide +kernel
theorem dX1_countRings_3 : decode cX1_countRings 3 = .ok (.istore_n 2, 1) := by decide +kernel
theorem dX1_countRings_4 : decode cX1_countRings 4 = .ok (.iload_n 2, 1) := by decide +kernel
theorem dX1_countRings_5 : decode cX1_countRings 5 = .ok (.bipush 24, 2) := by decide +kernel
theorem dX1_countRings_7 : decode cX1_countRings 7 = .ok (.if_icmp .ge 20, 3) := by decide +kernel
theorem dX1_countRings_10 : decode cX1_countRings 10 = .ok (.aload_n 0, 1) := by decide +kernel
theorem dX1_countRings_11 : decode cX1_countRings 11 = .ok (.iload_n 2, 1) := by decide +kernel
theorem dX1_countRings_12 : decode cX1_countRings 12 = .ok (.invokevirtual 86, 3) := by decide +kernel
theorem dX1_countRings_15 : decode cX1_countRings 15 = .ok (.ifCond .le 6, 3) := by decide +kernel
theorem dX1_countRings_18 : decode cX1_countRings 18 = .ok (.iinc 1 1, 3) := by decide +kernel
theorem dX1_countRings_21 : decode cX1_countRings 21 = .ok (.iinc 2 1, 3) := by decide +kernel
theorem dX1_countRings_24 : decode cX1_countRings 24 = .ok (.goto (-20), 3) := by decide +kernel
theorem dX1_countRings_27 : decode cX1_countRings 27 = .ok (.iload_n 1, 1) := by decide +kernel
theorem dX1_countRings_28 : decode cX1_countRings 28 = .ok (.ireturn, 1) := by decide +kernel
theorem dX1_sizeOfRingFrom_0 : decode cX1_sizeOfRingFrom 0 = .ok (.iload_n 1, 1) := by decide +kernel
theorem dX1_sizeOfRingFrom_1 : decode cX1_sizeOfRingFrom 1 = .ok (.istore_n 2, 1) := by decide +kernel
theorem dX1_sizeOfRingFrom_2 : decode cX1_sizeOfRingFrom 2 = .ok (.iconst 1, 1) := by decide +kernel
theorem dX1_sizeOfRingFrom_3 : decode cX1_sizeOfRingFrom 3 = .ok (.istore_n 3, 1) := by decide +kernel
theorem dX1_sizeOfRingFrom_4 : decode cX1_sizeOfRingFrom 4 = .ok (.iload_n 3, 1) := by decide +kernel
theorem dX1_sizeOfRingFrom_5 : decode cX1_sizeOfRingFrom 5 = .ok (.bipush 24, 2) := by decide +kernel
theorem dX1_sizeOfRingFrom_7 : decode cX1_sizeOfRingFrom 7 = .ok (.if_icmp .gt 29, 3) := by decide +kernel
theorem dX1_sizeOfRingFrom_10 : decode cX1_sizeOfRingFrom 10 = .ok (.aload_n 0, 1) := by decide +kernel
theorem dX1_sizeOfRingFrom_11 : decode cX1_sizeOfRingFrom 11 = .ok (.iload_n 2, 1) := by decide +kernel
theorem dX1_sizeOfRingFrom_12 : decode cX1_sizeOfRingFrom 12 = .ok (.invokevirtual 89, 3) := by decide +kernel
theorem dX1_sizeOfRingFrom_15 : decode cX1_sizeOfRingFrom 15 = .ok (.istore_n 2, 1) := by decide +kernel
theorem dX1_sizeOfRingFrom_16 : decode cX1_sizeOfRingFrom 16 = .ok (.iload_n 2, 1) := by decide +kernel
theorem dX1_sizeOfRingFrom_17 : decode cX1_sizeOfRingFrom 17 = .ok (.iload_n 1, 1) := by decide +kernel
theorem dX1_sizeOfRingFrom_18 : decode cX1_sizeOfRingFrom 18 = .ok (.if_icmp .ne 5, 3) := by decide +kernel
theorem dX1_sizeOfRingFrom_21 : decode cX1_sizeOfRingFrom 21 = .ok (.iload_n 3, 1) := by decide +kernel
theorem dX1_sizeOfRingFrom_22 : decode cX1_sizeOfRingFrom 22 = .ok (.ireturn, 1) := by decide +kernel
theorem dX1_sizeOfRingFrom_23 : decode cX1_sizeOfRingFrom 23 = .ok (.iload_n 2, 1) := by decide +kernel
theorem dX1_sizeOfRingFrom_24 : decode cX1_sizeOfRingFrom 24 = .ok (.iload_n 1, 1) := by decide +kernel
theorem dX1_sizeOfRingFrom_25 : decode cX1_sizeOfRingFrom 25 = .ok (.if_icmp .ge 5, 3) := by decide +kernel
theorem dX1_sizeOfRingFrom_28 : decode cX1_sizeOfRingFrom 28 = .ok (.iconst 0, 1) := by decide +kernel
theorem dX1_sizeOfRingFrom_29 : decode cX1_sizeOfRingFrom 29 = .ok (.ireturn, 1) := by decide +kernel
theorem dX1_sizeOfRingFrom_30 : decode cX1_sizeOfRingFrom 30 = .ok (.iinc 3 1, 3) := by decide +kernel
theorem dX1_sizeOfRingFrom_33 : decode cX1_sizeOfRingFrom 33 = .ok (.goto (-29), 3) := by decide +kernel
theorem dX1_sizeOfRingFrom_36 : decode cX1_sizeOfRingFrom 36 = .ok (.iconst 0, 1) := by decide +kernel
theorem dX1_sizeOfRingFrom_37 : decode cX1_sizeOfRingFrom 37 = .ok (.ireturn, 1) := by decide +kernel
theorem dX1_threadOfRing_0 : decode cX1_threadOfRing 0 = .ok (.iconst 0, 1) := by decide +kernel
theorem dX1_threadOfRing_1 : decode cX1_threadOfRing 1 = .ok (.istore_n 3, 1) := by decide +kernel
theorem dX1_threadOfRing_2 : decode cX1_threadOfRing 2 = .ok (.iconst 0, 1) := by decide +kernel
theorem dX1_threadOfRing_3 : decode cX1_threadOfRing 3 = .ok (.istore 4, 2) := by decide +kernel
theorem dX1_threadOfRing_5 : decode cX1_threadOfRing 5 = .ok (.iload 4, 2) := by decide +kernel
theorem dX1_threadOfRing_7 : decode cX1_threadOfRing 7 = .ok (.bipush 24, 2) := by decide +kernel
theorem dX1_threadOfRing_9 : decode cX1_threadOfRing 9 = .ok (.if_icmp .ge 52, 3) := by decide +kernel
theorem dX1_threadOfRing_12 : decode cX1_threadOfRing 12 = .ok (.aload_n 0, 1) := by decide +kernel
theorem dX1_threadOfRing_13 : decode cX1_threadOfRing 13 = .ok (.iload 4, 2) := by decide +kernel
theorem dX1_threadOfRing_15 : decode cX1_threadOfRing 15 = .ok (.invokevirtual 86, 3) := by decide +kernel
theorem dX1_threadOfRing_18 : decode cX1_threadOfRing 18 = .ok (.istore 5, 2) := by decide +kernel
theorem dX1_threadOfRing_20 : decode cX1_threadOfRing 20 = .ok (.iload 5, 2) := by decide +kernel
theorem dX1_threadOfRing_22 : decode cX1_threadOfRing 22 = .ok (.ifCond .le 33, 3) := by decide +kernel
theorem dX1_threadOfRing_25 : decode cX1_threadOfRing 25 = .ok (.iload_n 3, 1) := by decide +kernel
theorem dX1_threadOfRing_26 : decode cX1_threadOfRing 26 = .ok (.iload_n 1, 1) := by decide +kernel
theorem dX1_threadOfRing_27 : decode cX1_threadOfRing 27 = .ok (.if_icmp .ne 25, 3) := by decide +kernel
theorem dX1_threadOfRing_30 : decode cX1_threadOfRing 30 = .ok (.iload_n 2, 1) := by decide +kernel
theorem dX1_threadOfRing_31 : decode cX1_threadOfRing 31 = .ok (.ifCond .lt 9, 3) := by decide +kernel
theorem dX1_threadOfRing_34 : decode cX1_threadOfRing 34 = .ok (.iload_n 2, 1) := by decide +kernel
theorem dX1_threadOfRing_35 : decode cX1_threadOfRing 35 = .ok (.iload 5, 2) := by decide +kernel
theorem dX1_threadOfRing_37 : decode cX1_threadOfRing 37 = .ok (.if_icmp .lt 7, 3) := by decide +kernel
theorem dX1_threadOfRing_40 : decode cX1_threadOfRing 40 = .ok (.iconst (-1), 1) := by decide +kernel
theorem dX1_threadOfRing_41 : decode cX1_threadOfRing 41 = .ok (.goto 10, 3) := by decide +kernel
theorem dX1_threadOfRing_44 : decode cX1_threadOfRing 44 = .ok (.aload_n 0, 1) := by decide +kernel
theorem dX1_threadOfRing_45 : decode cX1_threadOfRing 45 = .ok (.iload 4, 2) := by decide +kernel
theorem dX1_threadOfRing_47 : decode cX1_threadOfRing 47 = .ok (.iload_n 2, 1) := by decide +kernel
theorem dX1_threadOfRing_48 : decode cX1_threadOfRing 48 = .ok (.invokevirtual 92, 3) := by decide +kernel
theorem dX1_threadOfRing_51 : decode cX1_threadOfRing 51 = .ok (.ireturn, 1) := by decide +kernel
theorem dX1_threadOfRing_52 : decode cX1_threadOfRing 52 = .ok (.iinc 3 1, 3) := by decide +kernel
theorem dX1_threadOfRing_55 : decode cX1_threadOfRing 55 = .ok (.iinc 4 1, 3) := by decide +kernel
theorem dX1_threadOfRing_58 : decode cX1_threadOfRing 58 = .ok (.goto (-53), 3) := by decide +kernel
theorem dX1_threadOfRing_61 : decode cX1_threadOfRing 61 = .ok (.iconst (-1), 1) := by decide +kernel
theorem dX1_threadOfRing_62 : decode cX1_threadOfRing 62 = .ok (.ireturn, 1) := by decide +kernel
theorem dX1_walkFrom_0 : decode cX1_walkFrom 0 = .ok (.iload_n 1, 1) := by decide +kernel
theorem dX1_walkFrom_1 : decode cX1_walkFrom 1 = .ok (.istore_n 3, 1) := by decide +kernel
theorem dX1_walkFrom_2 : decode cX1_walkFrom 2 = .ok (.iconst 0, 1) := by decide +kernel
theorem dX1_walkFrom_3 : decode cX1_walkFrom 3 = .ok (.istore 4, 2) := by decide +kernel
theorem dX1_walkFrom_5 : decode cX1_walkFrom 5 = .ok (.iload 4, 2) := by decide +kernel
theorem dX1_walkFrom_7 : decode cX1_walkFrom 7 = .ok (.iload_n 2, 1) := by decide +kernel
theorem dX1_walkFrom_8 : decode cX1_walkFrom 8 = .ok (.if_icmp .ge 15, 3) := by decide +kernel
theorem dX1_walkFrom_11 : decode cX1_walkFrom 11 = .ok (.aload_n 0, 1) := by decide +kernel
theorem dX1_walkFrom_12 : decode cX1_walkFrom 12 = .ok (.iload_n 3, 1) := by decide +kernel
theorem dX1_walkFrom_13 : decode cX1_walkFrom 13 = .ok (.invokevirtual 89, 3) := by decide +kernel
theorem dX1_walkFrom_16 : decode cX1_walkFrom 16 = .ok (.istore_n 3, 1) := by decide +kernel
theorem dX1_walkFrom_17 : decode cX1_walkFrom 17 = .ok (.iinc 4 1, 3) := by decide +kernel
theorem dX1_walkFrom_20 : decode cX1_walkFrom 20 = .ok (.goto (-15), 3) := by decide +kernel
theorem dX1_walkFrom_23 : decode cX1_walkFrom 23 = .ok (.iload_n 3, 1) := by decide +kernel
theorem dX1_walkFrom_24 : decode cX1_walkFrom 24 = .ok (.ireturn, 1) := by decide +kernel
theorem dX1_footOf_0 : decode cX1_footOf 0 = .ok (.aload_n 0, 1) := by decide +kernel
theorem dX1_footOf_1 : decode cX1_footOf 1 = .ok (.iload_n 1, 1) := by decide +kernel
theorem dX1_footOf_2 : decode cX1_footOf 2 = .ok (.invokevirtual 75, 3) := by decide +kernel
theorem dX1_footOf_5 : decode cX1_footOf 5 = .ok (.astore_n 2, 1) := by decide +kernel
theorem dX1_footOf_6 : decode cX1_footOf 6 = .ok (.aload_n 2, 1) := by decide +kernel
theorem dX1_footOf_7 : decode cX1_footOf 7 = .ok (.ifnull 10, 3) := by decide +kernel
theorem dX1_footOf_10 : decode cX1_footOf 10 = .ok (.aload_n 2, 1) := by decide +kernel
theorem dX1_footOf_11 : decode cX1_footOf 11 = .ok (.invokevirtual 55, 3) := by decide +kernel
theorem dX1_footOf_14 : decode cX1_footOf 14 = .ok (.ifCond .ne 5, 3) := by decide +kernel
theorem dX1_footOf_17 : decode cX1_footOf 17 = .ok (.iconst (-1), 1) := by decide +kernel
theorem dX1_footOf_18 : decode cX1_footOf 18 = .ok (.ireturn, 1) := by decide +kernel
theorem dX1_footOf_19 : decode cX1_footOf 19 = .ok (.iload_n 1, 1) := by decide +kernel
theorem dX1_footOf_20 : decode cX1_footOf 20 = .ok (.istore_n 3, 1) := by decide +kernel
theorem dX1_footOf_21 : decode cX1_footOf 21 = .ok (.iconst 0, 1) := by decide +kernel
theorem dX1_footOf_22 : decode cX1_footOf 22 = .ok (.istore 4, 2) := by decide +kernel
theorem dX1_footOf_24 : decode cX1_footOf 24 = .ok (.iload 4, 2) := by decide +kernel
theorem dX1_footOf_26 : decode cX1_footOf 26 = .ok (.bipush 24, 2) := by decide +kernel
theorem dX1_footOf_28 : decode cX1_footOf 28 = .ok (.if_icmp .ge 27, 3) := by decide +kernel
theorem dX1_footOf_31 : decode cX1_footOf 31 = .ok (.aload_n 0, 1) := by decide +kernel
theorem dX1_footOf_32 : decode cX1_footOf 32 = .ok (.iload_n 3, 1) := by decide +kernel
theorem dX1_footOf_33 : decode cX1_footOf 33 = .ok (.invokevirtual 89, 3) := by decide +kernel
theorem dX1_footOf_36 : decode cX1_footOf 36 = .ok (.istore 5, 2) := by decide +kernel
theorem dX1_footOf_38 : decode cX1_footOf 38 = .ok (.iload 5, 2) := by decide +kernel
theorem dX1_footOf_40 : decode cX1_footOf 40 = .ok (.iconst (-1), 1) := by decide +kernel
theorem dX1_footOf_41 : decode cX1_footOf 41 = .ok (.if_icmp .ne 5, 3) := by decide +kernel
theorem dX1_footOf_44 : decode cX1_footOf 44 = .ok (.iload_n 3, 1) := by decide +kernel
theorem dX1_footOf_45 : decode cX1_footOf 45 = .ok (.ireturn, 1) := by decide +kernel
theorem dX1_footOf_46 : decode cX1_footOf 46 = .ok (.iload 5, 2) := by decide +kernel
theorem dX1_footOf_48 : decode cX1_footOf 48 = .ok (.istore_n 3, 1) := by decide +kernel
theorem dX1_footOf_49 : decode cX1_footOf 49 = .ok (.iinc 4 1, 3) := by decide +kernel
theorem dX1_footOf_52 : decode cX1_footOf 52 = .ok (.goto (-28), 3) := by decide +kernel
theorem dX1_footOf_55 : decode cX1_footOf 55 = .ok (.iconst (-1), 1) := by decide +kernel
theorem dX1_footOf_56 : decode cX1_footOf 56 = .ok (.ireturn, 1) := by decide +kernel
theorem dX1_followChains_0 : decode cX1_followChains 0 = .ok (.iconst 0, 1) := by decide +kernel
theorem dX1_followChains_1 : decode cX1_followChains 1 = .ok (.istore_n 1, 1) := by decide +kernel
theorem dX1_followChains_2 : decode cX1_followChains 2 = .ok (.iload_n 1, 1) := by decide +kernel
theorem dX1_followChains_3 : decode cX1_followChains 3 = .ok (.bipush 24, 2) := by decide +kernel
theorem dX1_followChains_5 : decode cX1_followChains 5 = .ok (.if_icmp .ge 14, 3) := by decide +kernel
theorem dX1_followChains_8 : decode cX1_followChains 8 = .ok (.aload_n 0, 1) := by decide +kernel
theorem dX1_followChains_9 : decode cX1_followChains 9 = .ok (.iload_n 1, 1) := by decide +kernel
theorem dX1_followChains_10 : decode cX1_followChains 10 = .ok (.invokevirtual 96, 3) := by decide +kernel
theorem dX1_followChains_13 : decode cX1_followChains 13 = .ok (.iinc 1 1, 3) := by decide +kernel
theorem dX1_followChains_16 : decode cX1_followChains 16 = .ok (.goto (-14), 3) := by decide +kernel
theorem dX1_followChains_19 : decode cX1_followChains 19 = .ok (.return_, 1) := by decide +kernel
theorem dX1_followChainOf_0 : decode cX1_followChainOf 0 = .ok (.aload_n 0, 1) := by decide +kernel
theorem dX1_followChainOf_1 : decode cX1_followChainOf 1 = .ok (.getfield 17, 3) := by decide +kernel
theorem dX1_followChainOf_4 : decode cX1_followChainOf 4 = .ok (.iload_n 1, 1) := by decide +kernel
theorem dX1_followChainOf_5 : decode cX1_followChainOf 5 = .ok (.aaload, 1) := by decide +kernel
theorem dX1_followChainOf_6 : decode cX1_followChainOf 6 = .ok (.astore_n 2, 1) := by decide +kernel
theorem dX1_followChainOf_7 : decode cX1_followChainOf 7 = .ok (.iconst 0, 1) := by decide +kernel
theorem dX1_followChainOf_8 : decode cX1_followChainOf 8 = .ok (.istore_n 3, 1) := by decide +kernel
theorem dX1_followChainOf_9 : decode cX1_followChainOf 9 = .ok (.iload_n 3, 1) := by decide +kernel
theorem dX1_followChainOf_10 : decode cX1_followChainOf 10 = .ok (.bipush 24, 2) := by decide +kernel
theorem dX1_followChainOf_12 : decode cX1_followChainOf 12 = .ok (.if_icmp .ge 70, 3) := by decide +kernel
theorem dX1_followChainOf_15 : decode cX1_followChainOf 15 = .ok (.aload_n 2, 1) := by decide +kernel
theorem dX1_followChainOf_16 : decode cX1_followChainOf 16 = .ok (.ifnull 66, 3) := by decide +kernel
theorem dX1_followChainOf_19 : decode cX1_followChainOf 19 = .ok (.aload_n 0, 1) := by decide +kernel
theorem dX1_followChainOf_20 : decode cX1_followChainOf 20 = .ok (.getfield 25, 3) := by decide +kernel
theorem dX1_followChainOf_23 : decode cX1_followChainOf 23 = .ok (.iload_n 1, 1) := by decide +kernel
theorem dX1_followChainOf_24 : decode cX1_followChainOf 24 = .ok (.iaload, 1) := by decide +kernel
theorem dX1_followChainOf_25 : decode cX1_followChainOf 25 = .ok (.aload_n 2, 1) := by decide +kernel
theorem dX1_followChainOf_26 : decode cX1_followChainOf 26 = .ok (.getfield 41, 3) := by decide +kernel
theorem dX1_followChainOf_29 : decode cX1_followChainOf 29 = .ok (.invokestatic 100, 3) := by decide +kernel
theorem dX1_followChainOf_32 : decode cX1_followChainOf 32 = .ok (.ifCond .ne 50, 3) := by decide +kernel
theorem dX1_followChainOf_35 : decode cX1_followChainOf 35 = .ok (.aload_n 0, 1) := by decide +kernel
theorem dX1_followChainOf_36 : decode cX1_followChainOf 36 = .ok (.getfield 25, 3) := by decide +kernel
theorem dX1_followChainOf_39 : decode cX1_followChainOf 39 = .ok (.iload_n 1, 1) := by decide +kernel
theorem dX1_followChainOf_40 : decode cX1_followChainOf 40 = .ok (.dup2, 1) := by decide +kernel
theorem dX1_followChainOf_41 : decode cX1_followChainOf 41 = .ok (.iaload, 1) := by decide +kernel
theorem dX1_followChainOf_42 : decode cX1_followChainOf 42 = .ok (.iconst 1, 1) := by decide +kernel
theorem dX1_followChainOf_43 : decode cX1_followChainOf 43 = .ok (.aload_n 2, 1) := by decide +kernel
theorem dX1_followChainOf_44 : decode cX1_followChainOf 44 = .ok (.getfield 41, 3) := by decide +kernel
theorem dX1_followChainOf_47 : decode cX1_followChainOf 47 = .ok (.ishl, 1) := by decide +kernel
theorem dX1_followChainOf_48 : decode cX1_followChainOf 48 = .ok (.ior, 1) := by decide +kernel
theorem dX1_followChainOf_49 : decode cX1_followChainOf 49 = .ok (.iastore, 1) := by decide +kernel
theorem dX1_followChainOf_50 : decode cX1_followChainOf 50 = .ok (.aload_n 0, 1) := by decide +kernel
theorem dX1_followChainOf_51 : decode cX1_followChainOf 51 = .ok (.getfield 28, 3) := by decide +kernel
theorem dX1_followChainOf_54 : decode cX1_followChainOf 54 = .ok (.iload_n 1, 1) := by decide +kernel
theorem dX1_followChainOf_55 : decode cX1_followChainOf 55 = .ok (.dup2, 1) := by decide +kernel
theorem dX1_followChainOf_56 : decode cX1_followChainOf 56 = .ok (.iaload, 1) := by decide +kernel
theorem dX1_followChainOf_57 : decode cX1_followChainOf 57 = .ok (.aload_n 2, 1) := by decide +kernel
theorem dX1_followChainOf_58 : decode cX1_followChainOf 58 = .ok (.invokevirtual 104, 3) := by decide +kernel
theorem dX1_followChainOf_61 : decode cX1_followChainOf 61 = .ok (.ior, 1) := by decide +kernel
theorem dX1_followChainOf_62 : decode cX1_followChainOf 62 = .ok (.iastore, 1) := by decide +kernel
theorem dX1_followChainOf_63 : decode cX1_followChainOf 63 = .ok (.aload_n 0, 1) := by decide +kernel
theorem dX1_followChainOf_64 : decode cX1_followChainOf 64 = .ok (.aload_n 0, 1) := by decide +kernel
theorem dX1_followChainOf_65 : decode cX1_followChainOf 65 = .ok (.aload_n 2, 1) := by decide +kernel
theorem dX1_followChainOf_66 : decode cX1_followChainOf 66 = .ok (.getfield 41, 3) := by decide +kernel
theorem dX1_followChainOf_69 : decode cX1_followChainOf 69 = .ok (.invokevirtual 89, 3) := by decide +kernel
theorem dX1_followChainOf_72 : decode cX1_followChainOf 72 = .ok (.invokevirtual 75, 3) := by decide +kernel
theorem dX1_followChainOf_75 : decode cX1_followChainOf 75 = .ok (.astore_n 2, 1) := by decide +kernel
theorem dX1_followChainOf_76 : decode cX1_followChainOf 76 = .ok (.iinc 3 1, 3) := by decide +kernel
theorem dX1_followChainOf_79 : decode cX1_followChainOf 79 = .ok (.goto (-70), 3) := by decide +kernel
theorem dX1_followChainOf_82 : decode cX1_followChainOf 82 = .ok (.return_, 1) := by decide +kernel
theorem dX1_countThroughThread_0 : decode cX1_countThroughThread 0 = .ok (.iconst 0, 1) := by decide +kernel
theorem dX1_countThroughThread_1 : decode cX1_countThroughThread 1 = .ok (.istore_n 2, 1) := by decide +kernel
theorem dX1_countThroughThread_2 : decode cX1_countThroughThread 2 = .ok (.iconst 0, 1) := by decide +kernel
theorem dX1_countThroughThread_3 : decode cX1_countThroughThread 3 = .ok (.istore_n 3, 1) := by decide +kernel
theorem dX1_countThroughThread_4 : decode cX1_countThroughThread 4 = .ok (.iload_n 3, 1) := by decide +kernel
theorem dX1_countThroughThread_5 : decode cX1_countThroughThread 5 = .ok (.bipush 24, 2) := by decide +kernel
theorem dX1_countThroughThread_7 : decode cX1_countThroughThread 7 = .ok (.if_icmp .ge 30, 3) := by decide +kernel
theorem dX1_countThroughThread_10 : decode cX1_countThroughThread 10 = .ok (.iload_n 3, 1) := by decide +kernel
theorem dX1_countThroughThread_11 : decode cX1_countThroughThread 11 = .ok (.iload_n 1, 1) := by decide +kernel
theorem dX1_countThroughThread_12 : decode cX1_countThroughThread 12 = .ok (.if_icmp .eq 19, 3) := by decide +kernel
theorem dX1_countThroughThread_15 : decode cX1_countThroughThread 15 = .ok (.aload_n 0, 1) := by decide +kernel
theorem dX1_countThroughThread_16 : decode cX1_countThroughThread 16 = .ok (.getfield 25, 3) := by decide +kernel
theorem dX1_countThroughThread_19 : decode cX1_countThroughThread 19 = .ok (.iload_n 3, 1) := by decide +kernel
theorem dX1_countThroughThread_20 : decode cX1_countThroughThread 20 = .ok (.iaload, 1) := by decide +kernel
theorem dX1_countThroughThread_21 : decode cX1_countThroughThread 21 = .ok (.iload_n 1, 1) := by decide +kernel
theorem dX1_countThroughThread_22 : decode cX1_countThroughThread 22 = .ok (.invokestatic 100, 3) := by decide +kernel
theorem dX1_countThroughThread_25 : decode cX1_countThroughThread 25 = .ok (.ifCond .eq 6, 3) := by decide +kernel
theorem dX1_countThroughThread_28 : decode cX1_countThroughThread 28 = .ok (.iinc 2 1, 3) := by decide +kernel
theorem dX1_countThroughThread_31 : decode cX1_countThroughThread 31 = .ok (.iinc 3 1, 3) := by decide +kernel
theorem dX1_countThroughThread_34 : decode cX1_countThroughThread 34 = .ok (.goto (-30), 3) := by decide +kernel
theorem dX1_countThroughThread_37 : decode cX1_countThroughThread 37 = .ok (.iload_n 2, 1) := by decide +kernel
theorem dX1_countThroughThread_38 : decode cX1_countThroughThread 38 = .ok (.ireturn, 1) := by decide +kernel
theorem dX1_countThroughLock_0 : decode cX1_countThroughLock 0 = .ok (.iconst 0, 1) := by decide +kernel
theorem dX1_countThroughLock_1 : decode cX1_countThroughLock 1 = .ok (.istore_n 2, 1) := by decide +kernel
theorem dX1_countThroughLock_2 : decode cX1_countThroughLock 2 = .ok (.aload_n 0, 1) := by decide +kernel
theorem dX1_countThroughLock_3 : decode cX1_countThroughLock 3 = .ok (.getfield 28, 3) := by decide +kernel
theorem dX1_countThroughLock_6 : decode cX1_countThroughLock 6 = .ok (.astore_n 3, 1) := by decide +kernel
theorem dX1_countThroughLock_7 : decode cX1_countThroughLock 7 = .ok (.aload_n 3, 1) := by decide +kernel
theorem dX1_countThroughLock_8 : decode cX1_countThroughLock 8 = .ok (.arraylength, 1) := by decide +kernel
theorem dX1_countThroughLock_9 : decode cX1_countThroughLock 9 = .ok (.istore 4, 2) := by decide +kernel
theorem dX1_countThroughLock_11 : decode cX1_countThroughLock 11 = .ok (.iconst 0, 1) := by decide +kernel
theorem dX1_countThroughLock_12 : decode cX1_countThroughLock 12 = .ok (.istore 5, 2) := by decide +kernel
theorem dX1_countThroughLock_14 : decode cX1_countThroughLock 14 = .ok (.iload 5, 2) := by decide +kernel
theorem dX1_countThroughLock_16 : decode cX1_countThroughLock 16 = .ok (.iload 4, 2) := by decide +kernel
theorem dX1_countThroughLock_18 : decode cX1_countThroughLock 18 = .ok (.if_icmp .ge 27, 3) := by decide +kernel
theorem dX1_countThroughLock_21 : decode cX1_countThroughLock 21 = .ok (.aload_n 3, 1) := by decide +kernel
theorem dX1_countThroughLock_22 : decode cX1_countThroughLock 22 = .ok (.iload 5, 2) := by decide +kernel
theorem dX1_countThroughLock_24 : decode cX1_countThroughLock 24 = .ok (.iaload, 1) := by decide +kernel
theorem dX1_countThroughLock_25 : decode cX1_countThroughLock 25 = .ok (.istore 6, 2) := by decide +kernel
theorem dX1_countThroughLock_27 : decode cX1_countThroughLock 27 = .ok (.iload 6, 2) := by decide +kernel
theorem dX1_countThroughLock_29 : decode cX1_countThroughLock 29 = .ok (.iload_n 1, 1) := by decide +kernel
theorem dX1_countThroughLock_30 : decode cX1_countThroughLock 30 = .ok (.invokestatic 100, 3) := by decide +kernel
theorem dX1_countThroughLock_33 : decode cX1_countThroughLock 33 = .ok (.ifCond .eq 6, 3) := by decide +kernel
theorem dX1_countThroughLock_36 : decode cX1_countThroughLock 36 = .ok (.iinc 2 1, 3) := by decide +kernel
theorem dX1_countThroughLock_39 : decode cX1_countThroughLock 39 = .ok (.iinc 5 1, 3) := by decide +kernel
theorem dX1_countThroughLock_42 : decode cX1_countThroughLock 42 = .ok (.goto (-28), 3) := by decide +kernel
theorem dX1_countThroughLock_45 : decode cX1_countThroughLock 45 = .ok (.iload_n 2, 1) := by decide +kernel
theorem dX1_countThroughLock_46 : decode cX1_countThroughLock 46 = .ok (.ireturn, 1) := by decide +kernel
theorem dX1_guiltyLock_0 : decode cX1_guiltyLock 0 = .ok (.iconst (-1), 1) := by decide +kernel
theorem dX1_guiltyLock_1 : decode cX1_guiltyLock 1 = .ok (.istore_n 1, 1) := by decide +kernel
theorem dX1_guiltyLock_2 : decode cX1_guiltyLock 2 = .ok (.iconst 0, 1) := by decide +kernel
theorem dX1_guiltyLock_3 : decode cX1_guiltyLock 3 = .ok (.istore_n 2, 1) := by decide +kernel
theorem dX1_guiltyLock_4 : decode cX1_guiltyLock 4 = .ok (.iconst 0, 1) := by decide +kernel
theorem dX1_guiltyLock_5 : decode cX1_guiltyLock 5 = .ok (.istore_n 3, 1) := by decide +kernel
theorem dX1_guiltyLock_6 : decode cX1_guiltyLock 6 = .ok (.iload_n 3, 1) := by decide +kernel
theorem dX1_guiltyLock_7 : decode cX1_guiltyLock 7 = .ok (.bipush 16, 2) := by decide +kernel
theorem dX1_guiltyLock_9 : decode cX1_guiltyLock 9 = .ok (.if_icmp .ge 27, 3) := by decide +kernel
theorem dX1_guiltyLock_12 : decode cX1_guiltyLock 12 = .ok (.aload_n 0, 1) := by decide +kernel
theorem dX1_guiltyLock_13 : decode cX1_guiltyLock 13 = .ok (.iload_n 3, 1) := by decide +kernel
theorem dX1_guiltyLock_14 : decode cX1_guiltyLock 14 = .ok (.invokevirtual 108, 3) := by decide +kernel
theorem dX1_guiltyLock_17 : decode cX1_guiltyLock 17 = .ok (.istore 4, 2) := by decide +kernel
theorem dX1_guiltyLock_19 : decode cX1_guiltyLock 19 = .ok (.iload 4, 2) := by decide +kernel
theorem dX1_guiltyLock_21 : decode cX1_guiltyLock 21 = .ok (.iload_n 2, 1) := by decide +kernel
theorem dX1_guiltyLock_22 : decode cX1_guiltyLock 22 = .ok (.if_icmp .le 8, 3) := by decide +kernel
theorem dX1_guiltyLock_25 : decode cX1_guiltyLock 25 = .ok (.iload_n 3, 1) := by decide +kernel
theorem dX1_guiltyLock_26 : decode cX1_guiltyLock 26 = .ok (.istore_n 1, 1) := by decide +kernel
theorem dX1_guiltyLock_27 : decode cX1_guiltyLock 27 = .ok (.iload 4, 2) := by decide +kernel
theorem dX1_guiltyLock_29 : decode cX1_guiltyLock 29 = .ok (.istore_n 2, 1) := by decide +kernel
theorem dX1_guiltyLock_30 : decode cX1_guiltyLock 30 = .ok (.iinc 3 1, 3) := by decide +kernel
theorem dX1_guiltyLock_33 : decode cX1_guiltyLock 33 = .ok (.goto (-27), 3) := by decide +kernel
theorem dX1_guiltyLock_36 : decode cX1_guiltyLock 36 = .ok (.iload_n 1, 1) := by decide +kernel
theorem dX1_guiltyLock_37 : decode cX1_guiltyLock 37 = .ok (.ireturn, 1) := by decide +kernel
theorem dX1_distanceOf_0 : decode cX1_distanceOf 0 = .ok (.iload_n 1, 1) := by decide +kernel
theorem dX1_distanceOf_1 : decode cX1_distanceOf 1 = .ok (.invokestatic 44, 3) := by decide +kernel
theorem dX1_distanceOf_4 : decode cX1_distanceOf 4 = .ok (.ifCond .eq 24, 3) := by decide +kernel
theorem dX1_distanceOf_7 : decode cX1_distanceOf 7 = .ok (.iload_n 2, 1) := by decide +kernel
theorem dX1_distanceOf_8 : decode cX1_distanceOf 8 = .ok (.invokestatic 44, 3) := by decide +kernel
theorem dX1_distanceOf_11 : decode cX1_distanceOf 11 = .ok (.ifCond .eq 17, 3) := by decide +kernel
theorem dX1_distanceOf_14 : decode cX1_distanceOf 14 = .ok (.aload_n 0, 1) := by decide +kernel
theorem dX1_distanceOf_15 : decode cX1_distanceOf 15 = .ok (.getfield 31, 3) := by decide +kernel
theorem dX1_distanceOf_18 : decode cX1_distanceOf 18 = .ok (.iload_n 1, 1) := by decide +kernel
theorem dX1_distanceOf_19 : decode cX1_distanceOf 19 = .ok (.bipush 24, 2) := by decide +kernel
theorem dX1_distanceOf_21 : decode cX1_distanceOf 21 = .ok (.imul, 1) := by decide +kernel
theorem dX1_distanceOf_22 : decode cX1_distanceOf 22 = .ok (.iload_n 2, 1) := by decide +kernel
theorem dX1_distanceOf_23 : decode cX1_distanceOf 23 = .ok (.iadd, 1) := by decide +kernel
theorem dX1_distanceOf_24 : decode cX1_distanceOf 24 = .ok (.baload, 1) := by decide +kernel
theorem dX1_distanceOf_25 : decode cX1_distanceOf 25 = .ok (.goto 4, 3) := by decide +kernel
theorem dX1_distanceOf_28 : decode cX1_distanceOf 28 = .ok (.iconst (-1), 1) := by decide +kernel
theorem dX1_distanceOf_29 : decode cX1_distanceOf 29 = .ok (.ireturn, 1) := by decide +kernel
theorem dX1_countHeaps_0 : decode cX1_countHeaps 0 = .ok (.iconst 0, 1) := by decide +kernel
theorem dX1_countHeaps_1 : decode cX1_countHeaps 1 = .ok (.istore_n 2, 1) := by decide +kernel
theorem dX1_countHeaps_2 : decode cX1_countHeaps 2 = .ok (.iconst 0, 1) := by decide +kernel
theorem dX1_countHeaps_3 : decode cX1_countHeaps 3 = .ok (.istore_n 3, 1) := by decide +kernel
theorem dX1_countHeaps_4 : decode cX1_countHeaps 4 = .ok (.iconst 0, 1) := by decide +kernel
theorem dX1_countHeaps_5 : decode cX1_countHeaps 5 = .ok (.istore 4, 2) := by decide +kernel
theorem dX1_countHeaps_7 : decode cX1_countHeaps 7 = .ok (.iload 4, 2) := by decide +kernel
theorem dX1_countHeaps_9 : decode cX1_countHeaps 9 = .ok (.bipush 24, 2) := by decide +kernel
theorem dX1_countHeaps_11 : decode cX1_countHeaps 11 = .ok (.if_icmp .ge 41, 3) := by decide +kernel
theorem dX1_countHeaps_14 : decode cX1_countHeaps 14 = .ok (.aload_n 0, 1) := by decide +kernel
theorem dX1_countHeaps_15 : decode cX1_countHeaps 15 = .ok (.getfield 17, 3) := by decide +kernel
theorem dX1_countHeaps_18 : decode cX1_countHeaps 18 = .ok (.iload 4, 2) := by decide +kernel
theorem dX1_countHeaps_20 : decode cX1_countHeaps 20 = .ok (.aaload, 1) := by decide +kernel
theorem dX1_countHeaps_21 : decode cX1_countHeaps 21 = .ok (.ifnull 25, 3) := by decide +kernel
theorem dX1_countHeaps_24 : decode cX1_countHeaps 24 = .ok (.iload_n 3, 1) := by decide +kernel
theorem dX1_countHeaps_25 : decode cX1_countHeaps 25 = .ok (.iload 4, 2) := by decide +kernel
theorem dX1_countHeaps_27 : decode cX1_countHeaps 27 = .ok (.invokestatic 100, 3) := by decide +kernel
theorem dX1_countHeaps_30 : decode cX1_countHeaps 30 = .ok (.ifCond .ne 16, 3) := by decide +kernel
theorem dX1_countHeaps_33 : decode cX1_countHeaps 33 = .ok (.iload_n 3, 1) := by decide +kernel
theorem dX1_countHeaps_34 : decode cX1_countHeaps 34 = .ok (.aload_n 0, 1) := by decide +kernel
theorem dX1_countHeaps_35 : decode cX1_countHeaps 35 = .ok (.iload 4, 2) := by decide +kernel
theorem dX1_countHeaps_37 : decode cX1_countHeaps 37 = .ok (.iload_n 1, 1) := by decide +kernel
theorem dX1_countHeaps_38 : decode cX1_countHeaps 38 = .ok (.invokevirtual 111, 3) := by decide +kernel
theorem dX1_countHeaps_41 : decode cX1_countHeaps 41 = .ok (.ior, 1) := by decide +kernel
theorem dX1_countHeaps_42 : decode cX1_countHeaps 42 = .ok (.istore_n 3, 1) := by decide +kernel
theorem dX1_countHeaps_43 : decode cX1_countHeaps 43 = .ok (.iinc 2 1, 3) := by decide +kernel
theorem dX1_countHeaps_46 : decode cX1_countHeaps 46 = .ok (.iinc 4 1, 3) := by decide +kernel
theorem dX1_countHeaps_49 : decode cX1_countHeaps 49 = .ok (.goto (-42), 3) := by decide +kernel
theorem dX1_countHeaps_52 : decode cX1_countHeaps 52 = .ok (.iload_n 2, 1) := by decide +kernel
theorem dX1_countHeaps_53 : decode cX1_countHeaps 53 = .ok (.ireturn, 1) := by decide +kernel
theorem dX1_heapOf_0 : decode cX1_heapOf 0 = .ok (.iconst 1, 1) := by decide +kernel
theorem dX1_heapOf_1 : decode cX1_heapOf 1 = .ok (.iload_n 1, 1) := by decide +kernel
theorem dX1_heapOf_2 : decode cX1_heapOf 2 = .ok (.ishl, 1) := by decide +kernel
theorem dX1_heapOf_3 : decode cX1_heapOf 3 = .ok (.istore_n 3, 1) := by decide +kernel
theorem dX1_heapOf_4 : decode cX1_heapOf 4 = .ok (.iconst 0, 1) := by decide +kernel
theorem dX1_heapOf_5 : decode cX1_heapOf 5 = .ok (.istore 4, 2) := by decide +kernel
theorem dX1_heapOf_7 : decode cX1_heapOf 7 = .ok (.iconst 0, 1) := by decide +kernel
theorem dX1_heapOf_8 : decode cX1_heapOf 8 = .ok (.istore 5, 2) := by decide +kernel
theorem dX1_heapOf_10 : decode cX1_heapOf 10 = .ok (.iload 5, 2) := by decide +kernel
theorem dX1_heapOf_12 : decode cX1_heapOf 12 = .ok (.bipush 24, 2) := by decide +kernel
theorem dX1_heapOf_14 : decode cX1_heapOf 14 = .ok (.if_icmp .ge 45, 3) := by decide +kernel
theorem dX1_heapOf_17 : decode cX1_heapOf 17 = .ok (.iload_n 3, 1) := by decide +kernel
theorem dX1_heapOf_18 : decode cX1_heapOf 18 = .ok (.iload 4, 2) := by decide +kernel
theorem dX1_heapOf_20 : decode cX1_heapOf 20 = .ok (.if_icmp .eq 39, 3) := by decide +kernel
theorem dX1_heapOf_23 : decode cX1_heapOf 23 = .ok (.iload_n 3, 1) := by decide +kernel
theorem dX1_heapOf_24 : decode cX1_heapOf 24 = .ok (.iload 4, 2) := by decide +kernel
theorem dX1_heapOf_26 : decode cX1_heapOf 26 = .ok (.iconst (-1), 1) := by decide +kernel
theorem dX1_heapOf_27 : decode cX1_heapOf 27 = .ok (.ixor, 1) := by decide +kernel
theorem dX1_heapOf_28 : decode cX1_heapOf 28 = .ok (.iand, 1) := by decide +kernel
theorem dX1_heapOf_29 : decode cX1_heapOf 29 = .ok (.invokestatic 114, 3) := by decide +kernel
theorem dX1_heapOf_32 : decode cX1_heapOf 32 = .ok (.istore 6, 2) := by decide +kernel
theorem dX1_heapOf_34 : decode cX1_heapOf 34 = .ok (.iload 4, 2) := by decide +kernel
theorem dX1_heapOf_36 : decode cX1_heapOf 36 = .ok (.iconst 1, 1) := by decide +kernel
theorem dX1_heapOf_37 : decode cX1_heapOf 37 = .ok (.iload 6, 2) := by decide +kernel
theorem dX1_heapOf_39 : decode cX1_heapOf 39 = .ok (.ishl, 1) := by decide +kernel
theorem dX1_heapOf_40 : decode cX1_heapOf 40 = .ok (.ior, 1) := by decide +kernel
theorem dX1_heapOf_41 : decode cX1_heapOf 41 = .ok (.istore 4, 2) := by decide +kernel
theorem dX1_heapOf_43 : decode cX1_heapOf 43 = .ok (.iload_n 3, 1) := by decide +kernel
theorem dX1_heapOf_44 : decode cX1_heapOf 44 = .ok (.aload_n 0, 1) := by decide +kernel
theorem dX1_heapOf_45 : decode cX1_heapOf 45 = .ok (.iload 6, 2) := by decide +kernel
theorem dX1_heapOf_47 : decode cX1_heapOf 47 = .ok (.iload_n 2, 1) := by decide +kernel
theorem dX1_heapOf_48 : decode cX1_heapOf 48 = .ok (.invokevirtual 117, 3) := by decide +kernel
theorem dX1_heapOf_51 : decode cX1_heapOf 51 = .ok (.ior, 1) := by decide +kernel
theorem dX1_heapOf_52 : decode cX1_heapOf 52 = .ok (.istore_n 3, 1) := by decide +kernel
theorem dX1_heapOf_53 : decode cX1_heapOf 53 = .ok (.iinc 5 1, 3) := by decide +kernel
theorem dX1_heapOf_56 : decode cX1_heapOf 56 = .ok (.goto (-46), 3) := by decide +kernel
theorem dX1_heapOf_59 : decode cX1_heapOf 59 = .ok (.iload_n 3, 1) := by decide +kernel
theorem dX1_heapOf_60 : decode cX1_heapOf 60 = .ok (.ireturn, 1) := by decide +kernel
theorem dX1_neighboursOf_0 : decode cX1_neighboursOf 0 = .ok (.iconst 0, 1) := by decide +kernel
theorem dX1_neighboursOf_1 : decode cX1_neighboursOf 1 = .ok (.istore_n 3, 1) := by decide +kernel
theorem dX1_neighboursOf_2 : decode cX1_neighboursOf 2 = .ok (.iconst 0, 1) := by decide +kernel
theorem dX1_neighboursOf_3 : decode cX1_neighboursOf 3 = .ok (.istore 4, 2) := by decide +kernel
theorem dX1_neighboursOf_5 : decode cX1_neighboursOf 5 = .ok (.iload 4, 2) := by decide +kernel
theorem dX1_neighboursOf_7 : decode cX1_neighboursOf 7 = .ok (.bipush 24, 2) := by decide +kernel
theorem dX1_neighboursOf_9 : decode cX1_neighboursOf 9 = .ok (.if_icmp .ge 37, 3) := by decide +kernel
theorem dX1_neighboursOf_12 : decode cX1_neighboursOf 12 = .ok (.aload_n 0, 1) := by decide +kernel
theorem dX1_neighboursOf_13 : decode cX1_neighboursOf 13 = .ok (.getfield 17, 3) := by decide +kernel
theorem dX1_neighboursOf_16 : decode cX1_neighboursOf 16 = .ok (.iload 4, 2) := by decide +kernel
theorem dX1_neighboursOf_18 : decode cX1_neighboursOf 18 = .ok (.aaload, 1) := by decide +kernel
theorem dX1_neighboursOf_19 : decode cX1_neighboursOf 19 = .ok (.ifnull 21, 3) := by decide +kernel
theorem dX1_neighboursOf_22 : decode cX1_neighboursOf 22 = .ok (.aload_n 0, 1) := by decide +kernel
theorem dX1_neighboursOf_23 : decode cX1_neighboursOf 23 = .ok (.iload_n 1, 1) := by decide +kernel
theorem dX1_neighboursOf_24 : decode cX1_neighboursOf 24 = .ok (.iload 4, 2) := by decide +kernel
theorem dX1_neighboursOf_26 : decode cX1_neighboursOf 26 = .ok (.invokevirtual 120, 3) := by decide +kernel
theorem dX1_neighboursOf_29 : decode cX1_neighboursOf 29 = .ok (.iload_n 2, 1) := by decide +kernel
theorem dX1_neighboursOf_30 : decode cX1_neighboursOf 30 = .ok (.if_icmp .gt 10, 3) := by decide +kernel
theorem dX1_neighboursOf_33 : decode cX1_neighboursOf 33 = .ok (.iload_n 3, 1) := by decide +kernel
theorem dX1_neighboursOf_34 : decode cX1_neighboursOf 34 = .ok (.iconst 1, 1) := by decide +kernel
theorem dX1_neighboursOf_35 : decode cX1_neighboursOf 35 = .ok (.iload 4, 2) := by decide +kernel
theorem dX1_neighboursOf_37 : decode cX1_neighboursOf 37 = .ok (.ishl, 1) := by decide +kernel
theorem dX1_neighboursOf_38 : decode cX1_neighboursOf 38 = .ok (.ior, 1) := by decide +kernel
theorem dX1_neighboursOf_39 : decode cX1_neighboursOf 39 = .ok (.istore_n 3, 1) := by decide +kernel
theorem dX1_neighboursOf_40 : decode cX1_neighboursOf 40 = .ok (.iinc 4 1, 3) := by decide +kernel
theorem dX1_neighboursOf_43 : decode cX1_neighboursOf 43 = .ok (.goto (-38), 3) := by decide +kernel
theorem dX1_neighboursOf_46 : decode cX1_neighboursOf 46 = .ok (.iload_n 3, 1) := by decide +kernel
theorem dX1_neighboursOf_47 : decode cX1_neighboursOf 47 = .ok (.ireturn, 1) := by decide +kernel
theorem dX2_init_0 : decode cX2_init 0 = .ok (.aload_n 0, 1) := by decide +kernel
theorem dX2_init_1 : decode cX2_init 1 = .ok (.invokespecial 3, 3) := by decide +kernel
theorem dX2_init_4 : decode cX2_init 4 = .ok (.aload_n 0, 1) := by decide +kernel
theorem dX2_init_5 : decode cX2_init 5 = .ok (.bipush 12, 2) := by decide +kernel
theorem dX2_init_7 : decode cX2_init 7 = .ok (.newarray .byte, 2) := by decide +kernel
theorem dX2_init_9 : decode cX2_init 9 = .ok (.putfield 9, 3) := by decide +kernel
theorem dX2_init_12 : decode cX2_init 12 = .ok (.aload_n 0, 1) := by decide +kernel
theorem dX2_init_13 : decode cX2_init 13 = .ok (.iconst (-1), 1) := by decide +kernel
theorem dX2_init_14 : decode cX2_init 14 = .ok (.putfield 15, 3) := by decide +kernel
theorem dX2_init_17 : decode cX2_init 17 = .ok (.aload_n 0, 1) := by decide +kernel
theorem dX2_init_18 : decode cX2_init 18 = .ok (.iconst (-1), 1) := by decide +kernel
theorem dX2_init_19 : decode cX2_init 19 = .ok (.putfield 19, 3) := by decide +kernel
theorem dX2_init_22 : decode cX2_init 22 = .ok (.return_, 1) := by decide +kernel
theorem dX2_addCall_0 : decode cX2_addCall 0 = .ok (.aload_n 0, 1) := by decide +kernel
theorem dX2_addCall_1 : decode cX2_addCall 1 = .ok (.getfield 22, 3) := by decide +kernel
theorem dX2_addCall_4 : decode cX2_addCall 4 = .ok (.bipush 12, 2) := by decide +kernel
theorem dX2_addCall_6 : decode cX2_addCall 6 = .ok (.if_icmp .ge 24, 3) := by decide +kernel
theorem dX2_addCall_9 : decode cX2_addCall 9 = .ok (.aload_n 0, 1) := by decide +kernel
theorem dX2_addCall_10 : decode cX2_addCall 10 = .ok (.getfield 9, 3) := by decide +kernel
theorem dX2_addCall_13 : decode cX2_addCall 13 = .ok (.aload_n 0, 1) := by decide +kernel
theorem dX2_addCall_14 : decode cX2_addCall 14 = .ok (.getfield 22, 3) := by decide +kernel
theorem dX2_addCall_17 : decode cX2_addCall 17 = .ok (.iload_n 1, 1) := by decide +kernel
theorem dX2_addCall_18 : decode cX2_addCall 18 = .ok (.i2b, 1) := by decide +kernel
theorem dX2_addCall_19 : decode cX2_addCall 19 = .ok (.bastore, 1) := by decide +kernel
theorem dX2_addCall_20 : decode cX2_addCall 20 = .ok (.aload_n 0, 1) := by decide +kernel
theorem dX2_addCall_21 : decode cX2_addCall 21 = .ok (.dup, 1) := by decide +kernel
theorem dX2_addCall_22 : decode cX2_addCall 22 = .ok (.getfield 22, 3) := by decide +kernel
theorem dX2_addCall_25 : decode cX2_addCall 25 = .ok (.iconst 1, 1) := by decide +kernel
theorem dX2_addCall_26 : decode cX2_addCall 26 = .ok (.iadd, 1) := by decide +kernel
theorem dX2_addCall_27 : decode cX2_addCall 27 = .ok (.putfield 22, 3) := by decide +kernel
theorem dX2_addCall_30 : decode cX2_addCall 30 = .ok (.return_, 1) := by decide +kernel
theorem dX2_callAt_0 : decode cX2_callAt 0 = .ok (.iload_n 1, 1) := by decide +kernel
theorem dX2_callAt_1 : decode cX2_callAt 1 = .ok (.ifCond .lt 11, 3) := by decide +kernel
theorem dX2_callAt_4 : decode cX2_callAt 4 = .ok (.iload_n 1, 1) := by decide +kernel
theorem dX2_callAt_5 : decode cX2_callAt 5 = .ok (.aload_n 0, 1) := by decide +kernel
theorem dX2_callAt_6 : decode cX2_callAt 6 = .ok (.getfield 22, 3) := by decide +kernel
theorem dX2_callAt_9 : decode cX2_callAt 9 = .ok (.if_icmp .lt 7, 3) := by decide +kernel
theorem dX2_callAt_12 : decode cX2_callAt 12 = .ok (.iconst (-1), 1) := by decide +kernel
theorem dX2_callAt_13 : decode cX2_callAt 13 = .ok (.goto 9, 3) := by decide +kernel
theorem dX2_callAt_16 : decode cX2_callAt 16 = .ok (.aload_n 0, 1) := by decide +kernel
theorem dX2_callAt_17 : decode cX2_callAt 17 = .ok (.getfield 9, 3) := by decide +kernel
theorem dX2_callAt_20 : decode cX2_callAt 20 = .ok (.iload_n 1, 1) := by decide +kernel
theorem dX2_callAt_21 : decode cX2_callAt 21 = .ok (.baload, 1) := by decide +kernel
theorem dX2_callAt_22 : decode cX2_callAt 22 = .ok (.ireturn, 1) := by decide +kernel
theorem dX2_holds_0 : decode cX2_holds 0 = .ok (.aload_n 0, 1) := by decide +kernel
theorem dX2_holds_1 : decode cX2_holds 1 = .ok (.getfield 25, 3) := by decide +kernel
theorem dX2_holds_4 : decode cX2_holds 4 = .ok (.iload_n 1, 1) := by decide +kernel
theorem dX2_holds_5 : decode cX2_holds 5 = .ok (.invokestatic 28, 3) := by decide +kernel
theorem dX2_holds_8 : decode cX2_holds 8 = .ok (.ireturn, 1) := by decide +kernel
theorem dX2_isWaiting_0 : decode cX2_isWaiting 0 = .ok (.aload_n 0, 1) := by decide +kernel
theorem dX2_isWaiting_1 : decode cX2_isWaiting 1 = .ok (.getfield 19, 3) := by decide +kernel
theorem dX2_isWaiting_4 : decode cX2_isWaiting 4 = .ok (.iconst (-1), 1) := by decide +kernel
theorem dX2_isWaiting_5 : decode cX2_isWaiting 5 = .ok (.if_icmp .eq 7, 3) := by decide +kernel
theorem dX2_isWaiting_8 : decode cX2_isWaiting 8 = .ok (.iconst 1, 1) := by decide +kernel
theorem dX2_isWaiting_9 : decode cX2_isWaiting 9 = .ok (.goto 4, 3) := by decide +kernel
theorem dX2_isWaiting_12 : decode cX2_isWaiting 12 = .ok (.iconst 0, 1) := by decide +kernel
theorem dX2_isWaiting_13 : decode cX2_isWaiting 13 = .ok (.ireturn, 1) := by decide +kernel
theorem dX2_waitsAtBit_0 : decode cX2_waitsAtBit 0 = .ok (.aload_n 0, 1) := by decide +kernel
theorem dX2_waitsAtBit_1 : decode cX2_waitsAtBit 1 = .ok (.invokevirtual 32, 3) := by decide +kernel
theorem dX2_waitsAtBit_4 : decode cX2_waitsAtBit 4 = .ok (.ifCond .eq 12, 3) := by decide +kernel
theorem dX2_waitsAtBit_7 : decode cX2_waitsAtBit 7 = .ok (.iconst 1, 1) := by decide +kernel
theorem dX2_waitsAtBit_8 : decode cX2_waitsAtBit 8 = .ok (.aload_n 0, 1) := by decide +kernel
theorem dX2_waitsAtBit_9 : decode cX2_waitsAtBit 9 = .ok (.getfield 19, 3) := by decide +kernel
theorem dX2_waitsAtBit_12 : decode cX2_waitsAtBit 12 = .ok (.ishl, 1) := by decide +kernel
theorem dX2_waitsAtBit_13 : decode cX2_waitsAtBit 13 = .ok (.goto 4, 3) := by decide +kernel
theorem dX2_waitsAtBit_16 : decode cX2_waitsAtBit 16 = .ok (.iconst 0, 1) := by decide +kernel
theorem dX2_waitsAtBit_17 : decode cX2_waitsAtBit 17 = .ok (.ireturn, 1) := by decide +kernel
theorem dX2_isLike_0 : decode cX2_isLike 0 = .ok (.aload_n 0, 1) := by decide +kernel
theorem dX2_isLike_1 : decode cX2_isLike 1 = .ok (.getfield 36, 3) := by decide +kernel
theorem dX2_isLike_4 : decode cX2_isLike 4 = .ok (.aload_n 1, 1) := by decide +kernel
theorem dX2_isLike_5 : decode cX2_isLike 5 = .ok (.getfield 36, 3) := by decide +kernel
theorem dX2_isLike_8 : decode cX2_isLike 8 = .ok (.if_icmp .ne 48, 3) := by decide +kernel
theorem dX2_isLike_11 : decode cX2_isLike 11 = .ok (.aload_n 0, 1) := by decide +kernel
theorem dX2_isLike_12 : decode cX2_isLike 12 = .ok (.getfield 39, 3) := by decide +kernel
theorem dX2_isLike_15 : decode cX2_isLike 15 = .ok (.aload_n 1, 1) := by decide +kernel
theorem dX2_isLike_16 : decode cX2_isLike 16 = .ok (.getfield 39, 3) := by decide +kernel
theorem dX2_isLike_19 : decode cX2_isLike 19 = .ok (.if_icmp .ne 37, 3) := by decide +kernel
theorem dX2_isLike_22 : decode cX2_isLike 22 = .ok (.aload_n 0, 1) := by decide +kernel
theorem dX2_isLike_23 : decode cX2_isLike 23 = .ok (.getfield 25, 3) := by decide +kernel
theorem dX2_isLike_26 : decode cX2_isLike 26 = .ok (.aload_n 1, 1) := by decide +kernel
theorem dX2_isLike_27 : decode cX2_isLike 27 = .ok (.getfield 25, 3) := by decide +kernel
theorem dX2_isLike_30 : decode cX2_isLike 30 = .ok (.if_icmp .ne 26, 3) := by decide +kernel
theorem dX2_isLike_33 : decode cX2_isLike 33 = .ok (.aload_n 0, 1) := by decide +kernel
theorem dX2_isLike_34 : decode cX2_isLike 34 = .ok (.getfield 19, 3) := by decide +kernel
theorem dX2_isLike_37 : decode cX2_isLike 37 = .ok (.aload_n 1, 1) := by decide +kernel
theorem dX2_isLike_38 : decode cX2_isLike 38 = .ok (.getfield 19, 3) := by decide +kernel
theorem dX2_isLike_41 : decode cX2_isLike 41 = .ok (.if_icmp .ne 15, 3) := by decide +kernel
theorem dX2_isLike_44 : decode cX2_isLike 44 = .ok (.aload_n 0, 1) := by decide +kernel
theorem dX2_isLike_45 : decode cX2_isLike 45 = .ok (.aload_n 1, 1) := by decide +kernel
theorem dX2_isLike_46 : decode cX2_isLike 46 = .ok (.invokevirtual 42, 3) := by decide +kernel
theorem dX2_isLike_49 : decode cX2_isLike 49 = .ok (.ifCond .eq 7, 3) := by decide +kernel
theorem dX2_isLike_52 : decode cX2_isLike 52 = .ok (.iconst 1, 1) := by decide +kernel
theorem dX2_isLike_53 : decode cX2_isLike 53 = .ok (.goto 4, 3) := by decide +kernel
theorem dX2_isLike_56 : decode cX2_isLike 56 = .ok (.iconst 0, 1) := by decide +kernel
theorem dX2_isLike_57 : decode cX2_isLike 57 = .ok (.ireturn, 1) := by decide +kernel
theorem dX2_hasCallsOf_0 : decode cX2_hasCallsOf 0 = .ok (.aload_n 0, 1) := by decide +kernel
theorem dX2_hasCallsOf_1 : decode cX2_hasCallsOf 1 = .ok (.getfield 22, 3) := by decide +kernel
theorem dX2_hasCallsOf_4 : decode cX2_hasCallsOf 4 = .ok (.aload_n 1, 1) := by decide +kernel
theorem dX2_hasCallsOf_5 : decode cX2_hasCallsOf 5 = .ok (.getfield 22, 3) := by decide +kernel
theorem dX2_hasCallsOf_8 : decode cX2_hasCallsOf 8 = .ok (.if_icmp .eq 5, 3) := by decide +kernel
theorem dX2_hasCallsOf_11 : decode cX2_hasCallsOf 11 = .ok (.iconst 0, 1) := by decide +kernel
theorem dX2_hasCallsOf_12 : decode cX2_hasCallsOf 12 = .ok (.ireturn, 1) := by decide +kernel
theorem dX2_hasCallsOf_13 : decode cX2_hasCallsOf 13 = .ok (.iconst 0, 1) := by decide +kernel
theorem dX2_hasCallsOf_14 : decode cX2_hasCallsOf 14 = .ok (.istore_n 2, 1) := by decide +kernel
theorem dX2_hasCallsOf_15 : decode cX2_hasCallsOf 15 = .ok (.iload_n 2, 1) := by decide +kernel
theorem dX2_hasCallsOf_16 : decode cX2_hasCallsOf 16 = .ok (.aload_n 0, 1) := by decide +kernel
theorem dX2_hasCallsOf_17 : decode cX2_hasCallsOf 17 = .ok (.getfield 22, 3) := by decide +kernel
theorem dX2_hasCallsOf_20 : decode cX2_hasCallsOf 20 = .ok (.if_icmp .ge 26, 3) := by decide +kernel
theorem dX2_hasCallsOf_23 : decode cX2_hasCallsOf 23 = .ok (.aload_n 0, 1) := by decide +kernel
theorem dX2_hasCallsOf_24 : decode cX2_hasCallsOf 24 = .ok (.getfield 9, 3) := by decide +kernel
theorem dX2_hasCallsOf_27 : decode cX2_hasCallsOf 27 = .ok (.iload_n 2, 1) := by decide +kernel
theorem dX2_hasCallsOf_28 : decode cX2_hasCallsOf 28 = .ok (.baload, 1) := by decide +kernel
theorem dX2_hasCallsOf_29 : decode cX2_hasCallsOf 29 = .ok (.aload_n 1, 1) := by decide +kernel
theorem dX2_hasCallsOf_30 : decode cX2_hasCallsOf 30 = .ok (.getfield 9, 3) := by decide +kernel
theorem dX2_hasCallsOf_33 : decode cX2_hasCallsOf 33 = .ok (.iload_n 2, 1) := by decide +kernel
theorem dX2_hasCallsOf_34 : decode cX2_hasCallsOf 34 = .ok (.baload, 1) := by decide +kernel
theorem dX2_hasCallsOf_35 : decode cX2_hasCallsOf 35 = .ok (.if_icmp .eq 5, 3) := by decide +kernel
theorem dX2_hasCallsOf_38 : decode cX2_hasCallsOf 38 = .ok (.iconst 0, 1) := by decide +kernel
theorem dX2_hasCallsOf_39 : decode cX2_hasCallsOf 39 = .ok (.ireturn, 1) := by decide +kernel
theorem dX2_hasCallsOf_40 : decode cX2_hasCallsOf 40 = .ok (.iinc 2 1, 3) := by decide +kernel
theorem dX2_hasCallsOf_43 : decode cX2_hasCallsOf 43 = .ok (.goto (-28), 3) := by decide +kernel
theorem dX2_hasCallsOf_46 : decode cX2_hasCallsOf 46 = .ok (.iconst 1, 1) := by decide +kernel
theorem dX2_hasCallsOf_47 : decode cX2_hasCallsOf 47 = .ok (.ireturn, 1) := by decide +kernel
theorem dX2_distanceTo_0 : decode cX2_distanceTo 0 = .ok (.iconst 0, 1) := by decide +kernel
theorem dX2_distanceTo_1 : decode cX2_distanceTo 1 = .ok (.istore_n 3, 1) := by decide +kernel
theorem dX2_distanceTo_2 : decode cX2_distanceTo 2 = .ok (.iload_n 3, 1) := by decide +kernel
theorem dX2_distanceTo_3 : decode cX2_distanceTo 3 = .ok (.aload_n 1, 1) := by decide +kernel
theorem dX2_distanceTo_4 : decode cX2_distanceTo 4 = .ok (.getfield 22, 3) := by decide +kernel
theorem dX2_distanceTo_7 : decode cX2_distanceTo 7 = .ok (.if_icmp .gt 13, 3) := by decide +kernel
theorem dX2_distanceTo_10 : decode cX2_distanceTo 10 = .ok (.aload_n 2, 1) := by decide +kernel
theorem dX2_distanceTo_11 : decode cX2_distanceTo 11 = .ok (.iload_n 3, 1) := by decide +kernel
theorem dX2_distanceTo_12 : decode cX2_distanceTo 12 = .ok (.iload_n 3, 1) := by decide +kernel
theorem dX2_distanceTo_13 : decode cX2_distanceTo 13 = .ok (.iastore, 1) := by decide +kernel
theorem dX2_distanceTo_14 : decode cX2_distanceTo 14 = .ok (.iinc 3 1, 3) := by decide +kernel
theorem dX2_distanceTo_17 : decode cX2_distanceTo 17 = .ok (.goto (-15), 3) := by decide +kernel
theorem dX2_distanceTo_20 : decode cX2_distanceTo 20 = .ok (.iconst 1, 1) := by decide +kernel
theorem dX2_distanceTo_21 : decode cX2_distanceTo 21 = .ok (.istore_n 3, 1) := by decide +kernel
theorem dX2_distanceTo_22 : decode cX2_distanceTo 22 = .ok (.iload_n 3, 1) := by decide +kernel
theorem dX2_distanceTo_23 : decode cX2_distanceTo 23 = .ok (.aload_n 0, 1) := by decide +kernel
theorem dX2_distanceTo_24 : decode cX2_distanceTo 24 = .ok (.getfield 22, 3) := by decide +kernel
theorem dX2_distanceTo_27 : decode cX2_distanceTo 27 = .ok (.if_icmp .gt 95, 3) := by decide +kernel
theorem dX2_distanceTo_30 : decode cX2_distanceTo 30 = .ok (.aload_n 2, 1) := by decide +kernel
theorem dX2_distanceTo_31 : decode cX2_distanceTo 31 = .ok (.iconst 0, 1) := by decide +kernel
theorem dX2_distanceTo_32 : decode cX2_distanceTo 32 = .ok (.iaload, 1) := by decide +kernel
theorem dX2_distanceTo_33 : decode cX2_distanceTo 33 = .ok (.istore 4, 2) := by decide +kernel
theorem dX2_distanceTo_35 : decode cX2_distanceTo 35 = .ok (.aload_n 2, 1) := by decide +kernel
theorem dX2_distanceTo_36 : decode cX2_distanceTo 36 = .ok (.iconst 0, 1) := by decide +kernel
theorem dX2_distanceTo_37 : decode cX2_distanceTo 37 = .ok (.iload_n 3, 1) := by decide +kernel
theorem dX2_distanceTo_38 : decode cX2_distanceTo 38 = .ok (.iastore, 1) := by decide +kernel
theorem dX2_distanceTo_39 : decode cX2_distanceTo 39 = .ok (.iconst 1, 1) := by decide +kernel
theorem dX2_distanceTo_40 : decode cX2_distanceTo 40 = .ok (.istore 5, 2) := by decide +kernel
theorem dX2_distanceTo_42 : decode cX2_distanceTo 42 = .ok (.iload 5, 2) := by decide +kernel
theorem dX2_distanceTo_44 : decode cX2_distanceTo 44 = .ok (.aload_n 1, 1) := by decide +kernel
theorem dX2_distanceTo_45 : decode cX2_distanceTo 45 = .ok (.getfield 22, 3) := by decide +kernel
theorem dX2_distanceTo_48 : decode cX2_distanceTo 48 = .ok (.if_icmp .gt 68, 3) := by decide +kernel
theorem dX2_distanceTo_51 : decode cX2_distanceTo 51 = .ok (.aload_n 0, 1) := by decide +kernel
theorem dX2_distanceTo_52 : decode cX2_distanceTo 52 = .ok (.getfield 9, 3) := by decide +kernel
theorem dX2_distanceTo_55 : decode cX2_distanceTo 55 = .ok (.iload_n 3, 1) := by decide +kernel
theorem dX2_distanceTo_56 : decode cX2_distanceTo 56 = .ok (.iconst 1, 1) := by decide +kernel
theorem dX2_distanceTo_57 : decode cX2_distanceTo 57 = .ok (.isub, 1) := by decide +kernel
theorem dX2_distanceTo_58 : decode cX2_distanceTo 58 = .ok (.baload, 1) := by decide +kernel
theorem dX2_distanceTo_59 : decode cX2_distanceTo 59 = .ok (.aload_n 1, 1) := by decide +kernel
theorem dX2_distanceTo_60 : decode cX2_distanceTo 60 = .ok (.getfield 9, 3) := by decide +kernel
theorem dX2_distanceTo_63 : decode cX2_distanceTo 63 = .ok (.iload 5, 2) := by decide +kernel
theorem dX2_distanceTo_65 : decode cX2_distanceTo 65 = .ok (.iconst 1, 1) := by decide +kernel
theorem dX2_distanceTo_66 : decode cX2_distanceTo 66 = .ok (.isub, 1) := by decide +kernel
theorem dX2_distanceTo_67 : decode cX2_distanceTo 67 = .ok (.baload, 1) := by decide +kernel
theorem dX2_distanceTo_68 : decode cX2_distanceTo 68 = .ok (.if_icmp .ne 8, 3) := by decide +kernel
theorem dX2_distanceTo_71 : decode cX2_distanceTo 71 = .ok (.iload 4, 2) := by decide +kernel
theorem dX2_distanceTo_73 : decode cX2_distanceTo 73 = .ok (.goto 7, 3) := by decide +kernel
theorem dX2_distanceTo_76 : decode cX2_distanceTo 76 = .ok (.iload 4, 2) := by decide +kernel
theorem dX2_distanceTo_78 : decode cX2_distanceTo 78 = .ok (.iconst 1, 1) := by decide +kernel
theorem dX2_distanceTo_79 : decode cX2_distanceTo 79 = .ok (.iadd, 1) := by decide +kernel
theorem dX2_distanceTo_80 : decode cX2_distanceTo 80 = .ok (.istore 6, 2) := by decide +kernel
theorem dX2_distanceTo_82 : decode cX2_distanceTo 82 = .ok (.aload_n 2, 1) := by decide +kernel
theorem dX2_distanceTo_83 : decode cX2_distanceTo 83 = .ok (.iload 5, 2) := by decide +kernel
theorem dX2_distanceTo_85 : decode cX2_distanceTo 85 = .ok (.iaload, 1) := by decide +kernel
theorem dX2_distanceTo_86 : decode cX2_distanceTo 86 = .ok (.istore 4, 2) := by decide +kernel
theorem dX2_distanceTo_88 : decode cX2_distanceTo 88 = .ok (.aload_n 2, 1) := by decide +kernel
theorem dX2_distanceTo_89 : decode cX2_distanceTo 89 = .ok (.iload 5, 2) := by decide +kernel
theorem dX2_distanceTo_91 : decode cX2_distanceTo 91 = .ok (.iload 6, 2) := by decide +kernel
theorem dX2_distanceTo_93 : decode cX2_distanceTo 93 = .ok (.iload 4, 2) := by decide +kernel
theorem dX2_distanceTo_95 : decode cX2_distanceTo 95 = .ok (.aload_n 2, 1) := by decide +kernel
theorem dX2_distanceTo_96 : decode cX2_distanceTo 96 = .ok (.iload 5, 2) := by decide +kernel
theorem dX2_distanceTo_98 : decode cX2_distanceTo 98 = .ok (.iconst 1, 1) := by decide +kernel
theorem dX2_distanceTo_99 : decode cX2_distanceTo 99 = .ok (.isub, 1) := by decide +kernel
theorem dX2_distanceTo_100 : decode cX2_distanceTo 100 = .ok (.iaload, 1) := by decide +kernel
theorem dX2_distanceTo_101 : decode cX2_distanceTo 101 = .ok (.invokestatic 46, 3) := by decide +kernel
theorem dX2_distanceTo_104 : decode cX2_distanceTo 104 = .ok (.iconst 1, 1) := by decide +kernel
theorem dX2_distanceTo_105 : decode cX2_distanceTo 105 = .ok (.iadd, 1) := by decide +kernel
theorem dX2_distanceTo_106 : decode cX2_distanceTo 106 = .ok (.invokestatic 46, 3) := by decide +kernel
theorem dX2_distanceTo_109 : decode cX2_distanceTo 109 = .ok (.iastore, 1) := by decide +kernel
theorem dX2_distanceTo_110 : decode cX2_distanceTo 110 = .ok (.iinc 5 1, 3) := by decide +kernel
theorem dX2_distanceTo_113 : decode cX2_distanceTo 113 = .ok (.goto (-71), 3) := by decide +kernel
theorem dX2_distanceTo_116 : decode cX2_distanceTo 116 = .ok (.iinc 3 1, 3) := by decide +kernel
theorem dX2_distanceTo_119 : decode cX2_distanceTo 119 = .ok (.goto (-97), 3) := by decide +kernel
theorem dX2_distanceTo_122 : decode cX2_distanceTo 122 = .ok (.aload_n 2, 1) := by decide +kernel
theorem dX2_distanceTo_123 : decode cX2_distanceTo 123 = .ok (.aload_n 1, 1) := by decide +kernel
theorem dX2_distanceTo_124 : decode cX2_distanceTo 124 = .ok (.getfield 22, 3) := by decide +kernel
theorem dX2_distanceTo_127 : decode cX2_distanceTo 127 = .ok (.iaload, 1) := by decide +kernel
theorem dX2_distanceTo_128 : decode cX2_distanceTo 128 = .ok (.ireturn, 1) := by decide +kernel
theorem dX3_init_0 : decode cX3_init 0 = .ok (.aload_n 0, 1) := by decide +kernel
theorem dX3_init_1 : decode cX3_init 1 = .ok (.invokespecial 3, 3) := by decide +kernel
theorem dX3_init_4 : decode cX3_init 4 = .ok (.aload_n 0, 1) := by decide +kernel
theorem dX3_init_5 : decode cX3_init 5 = .ok (.aload_n 1, 1) := by decide +kernel
theorem dX3_init_6 : decode cX3_init 6 = .ok (.putfield 9, 3) := by decide +kernel
theorem dX3_init_9 : decode cX3_init 9 = .ok (.aload_n 0, 1) := by decide +kernel
theorem dX3_init_10 : decode cX3_init 10 = .ok (.aload_n 2, 1) := by decide +kernel
theorem dX3_init_11 : decode cX3_init 11 = .ok (.putfield 15, 3) := by decide +kernel
theorem dX3_init_14 : decode cX3_init 14 = .ok (.return_, 1) := by decide +kernel
theorem dX3_readRows_0 : decode cX3_readRows 0 = .ok (.iconst 0, 1) := by decide +kernel
theorem dX3_readRows_1 : decode cX3_readRows 1 = .ok (.istore_n 1, 1) := by decide +kernel
theorem dX3_readRows_2 : decode cX3_readRows 2 = .ok (.iload_n 1, 1) := by decide +kernel
theorem dX3_readRows_3 : decode cX3_readRows 3 = .ok (.bipush 24, 2) := by decide +kernel
theorem dX3_readRows_5 : decode cX3_readRows 5 = .ok (.if_icmp .gt 60, 3) := by decide +kernel
theorem dX3_readRows_8 : decode cX3_readRows 8 = .ok (.aload_n 0, 1) := by decide +kernel
theorem dX3_readRows_9 : decode cX3_readRows 9 = .ok (.getfield 9, 3) := by decide +kernel
theorem dX3_readRows_12 : decode cX3_readRows 12 = .ok (.bipush 59, 2) := by decide +kernel
theorem dX3_readRows_14 : decode cX3_readRows 14 = .ok (.invokevirtual 19, 3) := by decide +kernel
theorem dX3_readRows_17 : decode cX3_readRows 17 = .ok (.ifCond .eq 48, 3) := by decide +kernel
theorem dX3_readRows_20 : decode cX3_readRows 20 = .ok (.new 25, 3) := by decide +kernel
theorem dX3_readRows_23 : decode cX3_readRows 23 = .ok (.dup, 1) := by decide +kernel
theorem dX3_readRows_24 : decode cX3_readRows 24 = .ok (.invokespecial 27, 3) := by decide +kernel
theorem dX3_readRows_27 : decode cX3_readRows 27 = .ok (.astore_n 2, 1) := by decide +kernel
theorem dX3_readRows_28 : decode cX3_readRows 28 = .ok (.aload_n 0, 1) := by decide +kernel
theorem dX3_readRows_29 : decode cX3_readRows 29 = .ok (.aload_n 2, 1) := by decide +kernel
theorem dX3_readRows_30 : decode cX3_readRows 30 = .ok (.invokevirtual 28, 3) := by decide +kernel
theorem dX3_readRows_33 : decode cX3_readRows 33 = .ok (.ifCond .ne 18, 3) := by decide +kernel
theorem dX3_readRows_36 : decode cX3_readRows 36 = .ok (.aload_n 0, 1) := by decide +kernel
theorem dX3_readRows_37 : decode cX3_readRows 37 = .ok (.getfield 15, 3) := by decide +kernel
theorem dX3_readRows_40 : decode cX3_readRows 40 = .ok (.aload_n 0, 1) := by decide +kernel
theorem dX3_readRows_41 : decode cX3_readRows 41 = .ok (.getfield 9, 3) := by decide +kernel
theorem dX3_readRows_44 : decode cX3_readRows 44 = .ok (.getfield 32, 3) := by decide +kernel
theorem dX3_readRows_47 : decode cX3_readRows 47 = .ok (.putfield 36, 3) := by decide +kernel
theorem dX3_readRows_50 : decode cX3_readRows 50 = .ok (.return_, 1) := by decide +kernel
theorem dX3_readRows_51 : decode cX3_readRows 51 = .ok (.aload_n 0, 1) := by decide +kernel
theorem dX3_readRows_52 : decode cX3_readRows 52 = .ok (.getfield 15, 3) := by decide +kernel
theorem dX3_readRows_55 : decode cX3_readRows 55 = .ok (.aload_n 2, 1) := by decide +kernel
theorem dX3_readRows_56 : decode cX3_readRows 56 = .ok (.invokevirtual 41, 3) := by decide +kernel
theorem dX3_readRows_59 : decode cX3_readRows 59 = .ok (.iinc 1 1, 3) := by decide +kernel
theorem dX3_readRows_62 : decode cX3_readRows 62 = .ok (.goto (-60), 3) := by decide +kernel
theorem dX3_readRows_65 : decode cX3_readRows 65 = .ok (.return_, 1) := by decide +kernel
theorem dX3_readRow_0 : decode cX3_readRow 0 = .ok (.aload_n 0, 1) := by decide +kernel
theorem dX3_readRow_1 : decode cX3_readRow 1 = .ok (.aload_n 1, 1) := by decide +kernel
theorem dX3_readRow_2 : decode cX3_readRow 2 = .ok (.invokevirtual 45, 3) := by decide +kernel
theorem dX3_readRow_5 : decode cX3_readRow 5 = .ok (.ifCond .eq 57, 3) := by decide +kernel
theorem dX3_readRow_8 : decode cX3_readRow 8 = .ok (.aload_n 0, 1) := by decide +kernel
theorem dX3_readRow_9 : decode cX3_readRow 9 = .ok (.aload_n 1, 1) := by decide +kernel
theorem dX3_readRow_10 : decode cX3_readRow 10 = .ok (.invokevirtual 48, 3) := by decide +kernel
theorem dX3_readRow_13 : decode cX3_readRow 13 = .ok (.ifCond .eq 49, 3) := by decide +kernel
theorem dX3_readRow_16 : decode cX3_readRow 16 = .ok (.aload_n 0, 1) := by decide +kernel
theorem dX3_readRow_17 : decode cX3_readRow 17 = .ok (.aload_n 1, 1) := by decide +kernel
theorem dX3_readRow_18 : decode cX3_readRow 18 = .ok (.invokevirtual 51, 3) := by decide +kernel
theorem dX3_readRow_21 : decode cX3_readRow 21 = .ok (.ifCond .eq 41, 3) := by decide +kernel
theorem dX3_readRow_24 : decode cX3_readRow 24 = .ok (.aload_n 0, 1) := by decide +kernel
theorem dX3_readRow_25 : decode cX3_readRow 25 = .ok (.aload_n 1, 1) := by decide +kernel
theorem dX3_readRow_26 : decode cX3_readRow 26 = .ok (.invokevirtual 54, 3) := by decide +kernel
theorem dX3_readRow_29 : decode cX3_readRow 29 = .ok (.ifCond .eq 33, 3) := by decide +kernel
theorem dX3_readRow_32 : decode cX3_readRow 32 = .ok (.aload_n 0, 1) := by decide +kernel
theorem dX3_readRow_33 : decode cX3_readRow 33 = .ok (.aload_n 1, 1) := by decide +kernel
theorem dX3_readRow_34 : decode cX3_readRow 34 = .ok (.invokevirtual 57, 3) := by decide +kernel
theorem dX3_readRow_37 : decode cX3_readRow 37 = .ok (.ifCond .eq 25, 3) := by decide +kernel
theorem dX3_readRow_40 : decode cX3_readRow 40 = .ok (.aload_n 0, 1) := by decide +kernel
theorem dX3_readRow_41 : decode cX3_readRow 41 = .ok (.aload_n 1, 1) := by decide +kernel
theorem dX3_readRow_42 : decode cX3_readRow 42 = .ok (.invokevirtual 60, 3) := by decide +kernel
theorem dX3_readRow_45 : decode cX3_readRow 45 = .ok (.ifCond .eq 17, 3) := by decide +kernel
theorem dX3_readRow_48 : decode cX3_readRow 48 = .ok (.aload_n 0, 1) := by decide +kernel
theorem dX3_readRow_49 : decode cX3_readRow 49 = .ok (.getfield 9, 3) := by decide +kernel
theorem dX3_readRow_52 : decode cX3_readRow 52 = .ok (.invokevirtual 63, 3) := by decide +kernel
theorem dX3_readRow_55 : decode cX3_readRow 55 = .ok (.ifCond .eq 7, 3) := by decide +kernel
theorem dX3_readRow_58 : decode cX3_readRow 58 = .ok (.iconst 1, 1) := by decide +kernel
theorem dX3_readRow_59 : decode cX3_readRow 59 = .ok (.goto 4, 3) := by decide +kernel
theorem dX3_readRow_62 : decode cX3_readRow 62 = .ok (.iconst 0, 1) := by decide +kernel
theorem dX3_readRow_63 : decode cX3_readRow 63 = .ok (.ireturn, 1) := by decide +kernel
theorem dX3_readThread_0 : decode cX3_readThread 0 = .ok (.aload_n 0, 1) := by decide +kernel
theorem dX3_readThread_1 : decode cX3_readThread 1 = .ok (.getfield 9, 3) := by decide +kernel
theorem dX3_readThread_4 : decode cX3_readThread 4 = .ok (.getfield 32, 3) := by decide +kernel
theorem dX3_readThread_7 : decode cX3_readThread 7 = .ok (.istore_n 2, 1) := by decide +kernel
theorem dX3_readThread_8 : decode cX3_readThread 8 = .ok (.aload_n 1, 1) := by decide +kernel
theorem dX3_readThread_9 : decode cX3_readThread 9 = .ok (.aload_n 0, 1) := by decide +kernel
theorem dX3_readThread_10 : decode cX3_readThread 10 = .ok (.getfield 9, 3) := by decide +kernel
theorem dX3_readThread_13 : decode cX3_readThread 13 = .ok (.iconst 2, 1) := by decide +kernel
theorem dX3_readThread_14 : decode cX3_readThread 14 = .ok (.bipush 23, 2) := by decide +kernel
theorem dX3_readThread_16 : decode cX3_readThread 16 = .ok (.invokevirtual 67, 3) := by decide +kernel
theorem dX3_readThread_19 : decode cX3_readThread 19 = .ok (.putfield 71, 3) := by decide +kernel
theorem dX3_readThread_22 : decode cX3_readThread 22 = .ok (.aload_n 0, 1) := by decide +kernel
theorem dX3_readThread_23 : decode cX3_readThread 23 = .ok (.getfield 15, 3) := by decide +kernel
theorem dX3_readThread_26 : decode cX3_readThread 26 = .ok (.aload_n 1, 1) := by decide +kernel
theorem dX3_readThread_27 : decode cX3_readThread 27 = .ok (.getfield 71, 3) := by decide +kernel
theorem dX3_readThread_30 : decode cX3_readThread 30 = .ok (.invokevirtual 74, 3) := by decide +kernel
theorem dX3_readThread_33 : decode cX3_readThread 33 = .ok (.ifnull 15, 3) := by decide +kernel
theorem dX3_readThread_36 : decode cX3_readThread 36 = .ok (.aload_n 1, 1) := by decide +kernel
theorem dX3_readThread_37 : decode cX3_readThread 37 = .ok (.aload_n 0, 1) := by decide +kernel
theorem dX3_readThread_38 : decode cX3_readThread 38 = .ok (.getfield 9, 3) := by decide +kernel
theorem dX3_readThread_41 : decode cX3_readThread 41 = .ok (.iload_n 2, 1) := by decide +kernel
theorem dX3_readThread_42 : decode cX3_readThread 42 = .ok (.invokevirtual 78, 3) := by decide +kernel
theorem dX3_readThread_45 : decode cX3_readThread 45 = .ok (.putfield 71, 3) := by decide +kernel
theorem dX3_readThread_48 : decode cX3_readThread 48 = .ok (.aload_n 1, 1) := by decide +kernel
theorem dX3_readThread_49 : decode cX3_readThread 49 = .ok (.getfield 71, 3) := by decide +kernel
theorem dX3_readThread_52 : decode cX3_readThread 52 = .ok (.iconst (-1), 1) := by decide +kernel
theorem dX3_readThread_53 : decode cX3_readThread 53 = .ok (.if_icmp .eq 7, 3) := by decide +kernel
theorem dX3_readThread_56 : decode cX3_readThread 56 = .ok (.iconst 1, 1) := by decide +kernel
theorem dX3_readThread_57 : decode cX3_readThread 57 = .ok (.goto 4, 3) := by decide +kernel
theorem dX3_readThread_60 : decode cX3_readThread 60 = .ok (.iconst 0, 1) := by decide +kernel
theorem dX3_readThread_61 : decode cX3_readThread 61 = .ok (.ireturn, 1) := by decide +kernel
theorem dX3_readState_0 : decode cX3_readState 0 = .ok (.aload_n 0, 1) := by decide +kernel
theorem dX3_readState_1 : decode cX3_readState 1 = .ok (.getfield 9, 3) := by decide +kernel
theorem dX3_readState_4 : decode cX3_readState 4 = .ok (.bipush 82, 2) := by decide +kernel
theorem dX3_readState_6 : decode cX3_readState 6 = .ok (.invokevirtual 19, 3) := by decide +kernel
theorem dX3_readState_9 : decode cX3_readState 9 = .ok (.ifCond .eq 11, 3) := by decide +kernel
theorem dX3_readState_12 : decode cX3_readState 12 = .ok (.aload_n 1, 1) := by decide +kernel
theorem dX3_readState_13 : decode cX3_readState 13 = .ok (.iconst 0, 1) := by decide +kernel
theorem dX3_readState_14 : decode cX3_readState 14 = .ok (.putfield 82, 3) := by decide +kernel
theorem dX3_readState_17 : decode cX3_readState 17 = .ok (.goto 65, 3) := by decide +kernel
theorem dX3_readState_20 : decode cX3_readState 20 = .ok (.aload_n 0, 1) := by decide +kernel
theorem dX3_readState_21 : decode cX3_readState 21 = .ok (.getfield 9, 3) := by decide +kernel
theorem dX3_readState_24 : decode cX3_readState 24 = .ok (.bipush 87, 2) := by decide +kernel
theorem dX3_readState_26 : decode cX3_readState 26 = .ok (.invokevirtual 19, 3) := by decide +kernel
theorem dX3_readState_29 : decode cX3_readState 29 = .ok (.ifCond .eq 11, 3) := by decide +kernel
theorem dX3_readState_32 : decode cX3_readState 32 = .ok (.aload_n 1, 1) := by decide +kernel
theorem dX3_readState_33 : decode cX3_readState 33 = .ok (.iconst 1, 1) := by decide +kernel
theorem dX3_readState_34 : decode cX3_readState 34 = .ok (.putfield 82, 3) := by decide +kernel
theorem dX3_readState_37 : decode cX3_readState 37 = .ok (.goto 45, 3) := by decide +kernel
theorem dX3_readState_40 : decode cX3_readState 40 = .ok (.aload_n 0, 1) := by decide +kernel
theorem dX3_readState_41 : decode cX3_readState 41 = .ok (.getfield 9, 3) := by decide +kernel
theorem dX3_readState_44 : decode cX3_readState 44 = .ok (.bipush 83, 2) := by decide +kernel
theorem dX3_readState_46 : decode cX3_readState 46 = .ok (.invokevirtual 19, 3) := by decide +kernel
theorem dX3_readState_49 : decode cX3_readState 49 = .ok (.ifCond .eq 11, 3) := by decide +kernel
theorem dX3_readState_52 : decode cX3_readState 52 = .ok (.aload_n 1, 1) := by decide +kernel
theorem dX3_readState_53 : decode cX3_readState 53 = .ok (.iconst 2, 1) := by decide +kernel
theorem dX3_readState_54 : decode cX3_readState 54 = .ok (.putfield 82, 3) := by decide +kernel
theorem dX3_readState_57 : decode cX3_readState 57 = .ok (.goto 25, 3) := by decide +kernel
theorem dX3_readState_60 : decode cX3_readState 60 = .ok (.aload_n 0, 1) := by decide +kernel
theorem dX3_readState_61 : decode cX3_readState 61 = .ok (.getfield 9, 3) := by decide +kernel
theorem dX3_readState_64 : decode cX3_readState 64 = .ok (.bipush 70, 2) := by decide +kernel
theorem dX3_readState_66 : decode cX3_readState 66 = .ok (.invokevirtual 19, 3) := by decide +kernel
theorem dX3_readState_69 : decode cX3_readState 69 = .ok (.ifCond .eq 11, 3) := by decide +kernel
theorem dX3_readState_72 : decode cX3_readState 72 = .ok (.aload_n 1, 1) := by decide +kernel
theorem dX3_readState_73 : decode cX3_readState 73 = .ok (.iconst 3, 1) := by decide +kernel
theorem dX3_readState_74 : decode cX3_readState 74 = .ok (.putfield 82, 3) := by decide +kernel
theorem dX3_readState_77 : decode cX3_readState 77 = .ok (.goto 5, 3) := by decide +kernel
theorem dX3_readState_80 : decode cX3_readState 80 = .ok (.iconst 0, 1) := by decide +kernel
theorem dX3_readState_81 : decode cX3_readState 81 = .ok (.ireturn, 1) := by decide +kernel
theorem dX3_readState_82 : decode cX3_readState 82 = .ok (.iconst 1, 1) := by decide +kernel
theorem dX3_readState_83 : decode cX3_readState 83 = .ok (.ireturn, 1) := by decide +kernel
theorem dX3_readCounter_0 : decode cX3_readCounter 0 = .ok (.aload_n 1, 1) := by decide +kernel
theorem dX3_readCounter_1 : decode cX3_readCounter 1 = .ok (.aload_n 0, 1) := by decide +kernel
theorem dX3_readCounter_2 : decode cX3_readCounter 2 = .ok (.getfield 9, 3) := by decide +kernel
theorem dX3_readCounter_5 : decode cX3_readCounter 5 = .ok (.iconst 4, 1) := by decide +kernel
theorem dX3_readCounter_6 : decode cX3_readCounter 6 = .ok (.sipush 9999, 3) := by decide +kernel
theorem dX3_readCounter_9 : decode cX3_readCounter 9 = .ok (.invokevirtual 67, 3) := by decide +kernel
theorem dX3_readCounter_12 : decode cX3_readCounter 12 = .ok (.putfield 85, 3) := by decide +kernel
theorem dX3_readCounter_15 : decode cX3_readCounter 15 = .ok (.aload_n 1, 1) := by decide +kernel
theorem dX3_readCounter_16 : decode cX3_readCounter 16 = .ok (.getfield 85, 3) := by decide +kernel
theorem dX3_readCounter_19 : decode cX3_readCounter 19 = .ok (.iconst (-1), 1) := by decide +kernel
theorem dX3_readCounter_20 : decode cX3_readCounter 20 = .ok (.if_icmp .eq 7, 3) := by decide +kernel
theorem dX3_readCounter_23 : decode cX3_readCounter 23 = .ok (.iconst 1, 1) := by decide +kernel
theorem dX3_readCounter_24 : decode cX3_readCounter 24 = .ok (.goto 4, 3) := by decide +kernel
theorem dX3_readCounter_27 : decode cX3_readCounter 27 = .ok (.iconst 0, 1) := by decide +kernel
theorem dX3_readCounter_28 : decode cX3_readCounter 28 = .ok (.ireturn, 1) := by decide +kernel
theorem dX3_readHeld_0 : decode cX3_readHeld 0 = .ok (.aload_n 0, 1) := by decide +kernel
theorem dX3_readHeld_1 : decode cX3_readHeld 1 = .ok (.getfield 9, 3) := by decide +kernel
theorem dX3_readHeld_4 : decode cX3_readHeld 4 = .ok (.bipush 104, 2) := by decide +kernel
theorem dX3_readHeld_6 : decode cX3_readHeld 6 = .ok (.invokevirtual 19, 3) := by decide +kernel
theorem dX3_readHeld_9 : decode cX3_readHeld 9 = .ok (.ifCond .ne 5, 3) := by decide +kernel
theorem dX3_readHeld_12 : decode cX3_readHeld 12 = .ok (.iconst 1, 1) := by decide +kernel
theorem dX3_readHeld_13 : decode cX3_readHeld 13 = .ok (.ireturn, 1) := by decide +kernel
theorem dX3_readHeld_14 : decode cX3_readHeld 14 = .ok (.aload_n 0, 1) := by decide +kernel
theorem dX3_readHeld_15 : decode cX3_readHeld 15 = .ok (.aload_n 1, 1) := by decide +kernel
theorem dX3_readHeld_16 : decode cX3_readHeld 16 = .ok (.invokevirtual 88, 3) := by decide +kernel
theorem dX3_readHeld_19 : decode cX3_readHeld 19 = .ok (.istore_n 2, 1) := by decide +kernel
theorem dX3_readHeld_20 : decode cX3_readHeld 20 = .ok (.iconst 1, 1) := by decide +kernel
theorem dX3_readHeld_21 : decode cX3_readHeld 21 = .ok (.istore_n 3, 1) := by decide +kernel
theorem dX3_readHeld_22 : decode cX3_readHeld 22 = .ok (.iload_n 3, 1) := by decide +kernel
theorem dX3_readHeld_23 : decode cX3_readHeld 23 = .ok (.iconst 4, 1) := by decide +kernel
theorem dX3_readHeld_24 : decode cX3_readHeld 24 = .ok (.if_icmp .ge 31, 3) := by decide +kernel
theorem dX3_readHeld_27 : decode cX3_readHeld 27 = .ok (.iload_n 2, 1) := by decide +kernel
theorem dX3_readHeld_28 : decode cX3_readHeld 28 = .ok (.ifCond .eq 27, 3) := by decide +kernel
theorem dX3_readHeld_31 : decode cX3_readHeld 31 = .ok (.aload_n 0, 1) := by decide +kernel
theorem dX3_readHeld_32 : decode cX3_readHeld 32 = .ok (.getfield 9, 3) := by decide +kernel
end
section
theorem dX3_readHeld_35 : decode cX3_readHeld 35 = .ok (.bipush 44, 2) := by decide +kernel
theorem dX3_readHeld_37 : decode cX3_readHeld 37 = .ok (.invokevirtual 19, 3) := by decide +kernel
theorem dX3_readHeld_40 : decode cX3_readHeld 40 = .ok (.ifCond .eq 15, 3) := by decide +kernel
theorem dX3_readHeld_43 : decode cX3_readHeld 43 = .ok (.aload_n 0, 1) := by decide +kernel
theorem dX3_readHeld_44 : decode cX3_readHeld 44 = .ok (.aload_n 1, 1) := by decide +kernel
theorem dX3_readHeld_45 : decode cX3_readHeld 45 = .ok (.invokevirtual 88, 3) := by decide +kernel
theorem dX3_readHeld_48 : decode cX3_readHeld 48 = .ok (.istore_n 2, 1) := by decide +kernel
theorem dX3_readHeld_49 : decode cX3_readHeld 49 = .ok (.iinc 3 1, 3) := by decide +kernel
theorem dX3_readHeld_52 : decode cX3_readHeld 52 = .ok (.goto (-30), 3) := by decide +kernel
theorem dX3_readHeld_55 : decode cX3_readHeld 55 = .ok (.iload_n 2, 1) := by decide +kernel
theorem dX3_readHeld_56 : decode cX3_readHeld 56 = .ok (.ireturn, 1) := by decide +kernel
theorem dX3_readHeldLock_0 : decode cX3_readHeldLock 0 = .ok (.aload_n 0, 1) := by decide +kernel
theorem dX3_readHeldLock_1 : decode cX3_readHeldLock 1 = .ok (.getfield 9, 3) := by decide +kernel
theorem dX3_readHeldLock_4 : decode cX3_readHeldLock 4 = .ok (.getfield 32, 3) := by decide +kernel
theorem dX3_readHeldLock_7 : decode cX3_readHeldLock 7 = .ok (.istore_n 2, 1) := by decide +kernel
theorem dX3_readHeldLock_8 : decode cX3_readHeldLock 8 = .ok (.aload_n 0, 1) := by decide +kernel
theorem dX3_readHeldLock_9 : decode cX3_readHeldLock 9 = .ok (.getfield 9, 3) := by decide +kernel
theorem dX3_readHeldLock_12 : decode cX3_readHeldLock 12 = .ok (.iconst 2, 1) := by decide +kernel
theorem dX3_readHeldLock_13 : decode cX3_readHeldLock 13 = .ok (.bipush 15, 2) := by decide +kernel
theorem dX3_readHeldLock_15 : decode cX3_readHeldLock 15 = .ok (.invokevirtual 67, 3) := by decide +kernel
theorem dX3_readHeldLock_18 : decode cX3_readHeldLock 18 = .ok (.istore_n 3, 1) := by decide +kernel
theorem dX3_readHeldLock_19 : decode cX3_readHeldLock 19 = .ok (.iload_n 3, 1) := by decide +kernel
theorem dX3_readHeldLock_20 : decode cX3_readHeldLock 20 = .ok (.iconst (-1), 1) := by decide +kernel
theorem dX3_readHeldLock_21 : decode cX3_readHeldLock 21 = .ok (.if_icmp .eq 32, 3) := by decide +kernel
theorem dX3_readHeldLock_24 : decode cX3_readHeldLock 24 = .ok (.aload_n 1, 1) := by decide +kernel
theorem dX3_readHeldLock_25 : decode cX3_readHeldLock 25 = .ok (.iload_n 3, 1) := by decide +kernel
theorem dX3_readHeldLock_26 : decode cX3_readHeldLock 26 = .ok (.invokevirtual 91, 3) := by decide +kernel
theorem dX3_readHeldLock_29 : decode cX3_readHeldLock 29 = .ok (.ifCond .ne 15, 3) := by decide +kernel
theorem dX3_readHeldLock_32 : decode cX3_readHeldLock 32 = .ok (.aload_n 0, 1) := by decide +kernel
theorem dX3_readHeldLock_33 : decode cX3_readHeldLock 33 = .ok (.getfield 15, 3) := by decide +kernel
theorem dX3_readHeldLock_36 : decode cX3_readHeldLock 36 = .ok (.iload_n 3, 1) := by decide +kernel
theorem dX3_readHeldLock_37 : decode cX3_readHeldLock 37 = .ok (.invokevirtual 95, 3) := by decide +kernel
theorem dX3_readHeldLock_40 : decode cX3_readHeldLock 40 = .ok (.iconst (-1), 1) := by decide +kernel
theorem dX3_readHeldLock_41 : decode cX3_readHeldLock 41 = .ok (.if_icmp .eq 12, 3) := by decide +kernel
theorem dX3_readHeldLock_44 : decode cX3_readHeldLock 44 = .ok (.aload_n 0, 1) := by decide +kernel
theorem dX3_readHeldLock_45 : decode cX3_readHeldLock 45 = .ok (.getfield 9, 3) := by decide +kernel
theorem dX3_readHeldLock_48 : decode cX3_readHeldLock 48 = .ok (.iload_n 2, 1) := by decide +kernel
theorem dX3_readHeldLock_49 : decode cX3_readHeldLock 49 = .ok (.invokevirtual 78, 3) := by decide +kernel
theorem dX3_readHeldLock_52 : decode cX3_readHeldLock 52 = .ok (.istore_n 3, 1) := by decide +kernel
theorem dX3_readHeldLock_53 : decode cX3_readHeldLock 53 = .ok (.iload_n 3, 1) := by decide +kernel
theorem dX3_readHeldLock_54 : decode cX3_readHeldLock 54 = .ok (.iconst (-1), 1) := by decide +kernel
theorem dX3_readHeldLock_55 : decode cX3_readHeldLock 55 = .ok (.if_icmp .ne 5, 3) := by decide +kernel
theorem dX3_readHeldLock_58 : decode cX3_readHeldLock 58 = .ok (.iconst 0, 1) := by decide +kernel
theorem dX3_readHeldLock_59 : decode cX3_readHeldLock 59 = .ok (.ireturn, 1) := by decide +kernel
theorem dX3_readHeldLock_60 : decode cX3_readHeldLock 60 = .ok (.aload_n 1, 1) := by decide +kernel
theorem dX3_readHeldLock_61 : decode cX3_readHeldLock 61 = .ok (.dup, 1) := by decide +kernel
theorem dX3_readHeldLock_62 : decode cX3_readHeldLock 62 = .ok (.getfield 98, 3) := by decide +kernel
theorem dX3_readHeldLock_65 : decode cX3_readHeldLock 65 = .ok (.iconst 1, 1) := by decide +kernel
theorem dX3_readHeldLock_66 : decode cX3_readHeldLock 66 = .ok (.iload_n 3, 1) := by decide +kernel
theorem dX3_readHeldLock_67 : decode cX3_readHeldLock 67 = .ok (.ishl, 1) := by decide +kernel
theorem dX3_readHeldLock_68 : decode cX3_readHeldLock 68 = .ok (.ior, 1) := by decide +kernel
theorem dX3_readHeldLock_69 : decode cX3_readHeldLock 69 = .ok (.putfield 98, 3) := by decide +kernel
theorem dX3_readHeldLock_72 : decode cX3_readHeldLock 72 = .ok (.iconst 1, 1) := by decide +kernel
theorem dX3_readHeldLock_73 : decode cX3_readHeldLock 73 = .ok (.ireturn, 1) := by decide +kernel
theorem dX3_readWait_0 : decode cX3_readWait 0 = .ok (.aload_n 1, 1) := by decide +kernel
theorem dX3_readWait_1 : decode cX3_readWait 1 = .ok (.getfield 82, 3) := by decide +kernel
theorem dX3_readWait_4 : decode cX3_readWait 4 = .ok (.iconst 1, 1) := by decide +kernel
theorem dX3_readWait_5 : decode cX3_readWait 5 = .ok (.if_icmp .eq 13, 3) := by decide +kernel
theorem dX3_readWait_8 : decode cX3_readWait 8 = .ok (.aload_n 1, 1) := by decide +kernel
theorem dX3_readWait_9 : decode cX3_readWait 9 = .ok (.getfield 82, 3) := by decide +kernel
theorem dX3_readWait_12 : decode cX3_readWait 12 = .ok (.iconst 2, 1) := by decide +kernel
theorem dX3_readWait_13 : decode cX3_readWait 13 = .ok (.if_icmp .eq 5, 3) := by decide +kernel
theorem dX3_readWait_16 : decode cX3_readWait 16 = .ok (.iconst 1, 1) := by decide +kernel
theorem dX3_readWait_17 : decode cX3_readWait 17 = .ok (.ireturn, 1) := by decide +kernel
theorem dX3_readWait_18 : decode cX3_readWait 18 = .ok (.aload_n 0, 1) := by decide +kernel
theorem dX3_readWait_19 : decode cX3_readWait 19 = .ok (.getfield 9, 3) := by decide +kernel
theorem dX3_readWait_22 : decode cX3_readWait 22 = .ok (.bipush 119, 2) := by decide +kernel
theorem dX3_readWait_24 : decode cX3_readWait 24 = .ok (.invokevirtual 19, 3) := by decide +kernel
theorem dX3_readWait_27 : decode cX3_readWait 27 = .ok (.ifCond .ne 5, 3) := by decide +kernel
theorem dX3_readWait_30 : decode cX3_readWait 30 = .ok (.iconst 0, 1) := by decide +kernel
theorem dX3_readWait_31 : decode cX3_readWait 31 = .ok (.ireturn, 1) := by decide +kernel
theorem dX3_readWait_32 : decode cX3_readWait 32 = .ok (.aload_n 1, 1) := by decide +kernel
theorem dX3_readWait_33 : decode cX3_readWait 33 = .ok (.aload_n 0, 1) := by decide +kernel
theorem dX3_readWait_34 : decode cX3_readWait 34 = .ok (.getfield 9, 3) := by decide +kernel
theorem dX3_readWait_37 : decode cX3_readWait 37 = .ok (.iconst 2, 1) := by decide +kernel
theorem dX3_readWait_38 : decode cX3_readWait 38 = .ok (.bipush 15, 2) := by decide +kernel
theorem dX3_readWait_40 : decode cX3_readWait 40 = .ok (.invokevirtual 67, 3) := by decide +kernel
theorem dX3_readWait_43 : decode cX3_readWait 43 = .ok (.putfield 101, 3) := by decide +kernel
theorem dX3_readWait_46 : decode cX3_readWait 46 = .ok (.aload_n 1, 1) := by decide +kernel
theorem dX3_readWait_47 : decode cX3_readWait 47 = .ok (.getfield 101, 3) := by decide +kernel
theorem dX3_readWait_50 : decode cX3_readWait 50 = .ok (.iconst (-1), 1) := by decide +kernel
theorem dX3_readWait_51 : decode cX3_readWait 51 = .ok (.if_icmp .eq 7, 3) := by decide +kernel
theorem dX3_readWait_54 : decode cX3_readWait 54 = .ok (.iconst 1, 1) := by decide +kernel
theorem dX3_readWait_55 : decode cX3_readWait 55 = .ok (.goto 4, 3) := by decide +kernel
theorem dX3_readWait_58 : decode cX3_readWait 58 = .ok (.iconst 0, 1) := by decide +kernel
theorem dX3_readWait_59 : decode cX3_readWait 59 = .ok (.ireturn, 1) := by decide +kernel
theorem dX3_readCalls_0 : decode cX3_readCalls 0 = .ok (.aload_n 0, 1) := by decide +kernel
theorem dX3_readCalls_1 : decode cX3_readCalls 1 = .ok (.getfield 9, 3) := by decide +kernel
theorem dX3_readCalls_4 : decode cX3_readCalls 4 = .ok (.bipush 99, 2) := by decide +kernel
theorem dX3_readCalls_6 : decode cX3_readCalls 6 = .ok (.invokevirtual 19, 3) := by decide +kernel
theorem dX3_readCalls_9 : decode cX3_readCalls 9 = .ok (.ifCond .ne 5, 3) := by decide +kernel
theorem dX3_readCalls_12 : decode cX3_readCalls 12 = .ok (.iconst 1, 1) := by decide +kernel
theorem dX3_readCalls_13 : decode cX3_readCalls 13 = .ok (.ireturn, 1) := by decide +kernel
theorem dX3_readCalls_14 : decode cX3_readCalls 14 = .ok (.iconst 0, 1) := by decide +kernel
theorem dX3_readCalls_15 : decode cX3_readCalls 15 = .ok (.istore_n 2, 1) := by decide +kernel
theorem dX3_readCalls_16 : decode cX3_readCalls 16 = .ok (.iload_n 2, 1) := by decide +kernel
theorem dX3_readCalls_17 : decode cX3_readCalls 17 = .ok (.bipush 12, 2) := by decide +kernel
theorem dX3_readCalls_19 : decode cX3_readCalls 19 = .ok (.if_icmp .ge 46, 3) := by decide +kernel
theorem dX3_readCalls_22 : decode cX3_readCalls 22 = .ok (.aload_n 0, 1) := by decide +kernel
theorem dX3_readCalls_23 : decode cX3_readCalls 23 = .ok (.getfield 9, 3) := by decide +kernel
theorem dX3_readCalls_26 : decode cX3_readCalls 26 = .ok (.invokevirtual 104, 3) := by decide +kernel
theorem dX3_readCalls_29 : decode cX3_readCalls 29 = .ok (.invokestatic 108, 3) := by decide +kernel
theorem dX3_readCalls_32 : decode cX3_readCalls 32 = .ok (.ifCond .eq 33, 3) := by decide +kernel
theorem dX3_readCalls_35 : decode cX3_readCalls 35 = .ok (.aload_n 1, 1) := by decide +kernel
theorem dX3_readCalls_36 : decode cX3_readCalls 36 = .ok (.aload_n 0, 1) := by decide +kernel
theorem dX3_readCalls_37 : decode cX3_readCalls 37 = .ok (.getfield 9, 3) := by decide +kernel
theorem dX3_readCalls_40 : decode cX3_readCalls 40 = .ok (.invokevirtual 104, 3) := by decide +kernel
theorem dX3_readCalls_43 : decode cX3_readCalls 43 = .ok (.invokevirtual 111, 3) := by decide +kernel
theorem dX3_readCalls_46 : decode cX3_readCalls 46 = .ok (.aload_n 0, 1) := by decide +kernel
theorem dX3_readCalls_47 : decode cX3_readCalls 47 = .ok (.getfield 9, 3) := by decide +kernel
theorem dX3_readCalls_50 : decode cX3_readCalls 50 = .ok (.dup, 1) := by decide +kernel
theorem dX3_readCalls_51 : decode cX3_readCalls 51 = .ok (.getfield 32, 3) := by decide +kernel
theorem dX3_readCalls_54 : decode cX3_readCalls 54 = .ok (.iconst 1, 1) := by decide +kernel
theorem dX3_readCalls_55 : decode cX3_readCalls 55 = .ok (.iadd, 1) := by decide +kernel
theorem dX3_readCalls_56 : decode cX3_readCalls 56 = .ok (.putfield 32, 3) := by decide +kernel
theorem dX3_readCalls_59 : decode cX3_readCalls 59 = .ok (.iinc 2 1, 3) := by decide +kernel
theorem dX3_readCalls_62 : decode cX3_readCalls 62 = .ok (.goto (-46), 3) := by decide +kernel
theorem dX3_readCalls_65 : decode cX3_readCalls 65 = .ok (.aload_n 1, 1) := by decide +kernel
theorem dX3_readCalls_66 : decode cX3_readCalls 66 = .ok (.getfield 115, 3) := by decide +kernel
theorem dX3_readCalls_69 : decode cX3_readCalls 69 = .ok (.ifCond .le 7, 3) := by decide +kernel
theorem dX3_readCalls_72 : decode cX3_readCalls 72 = .ok (.iconst 1, 1) := by decide +kernel
theorem dX3_readCalls_73 : decode cX3_readCalls 73 = .ok (.goto 4, 3) := by decide +kernel
theorem dX3_readCalls_76 : decode cX3_readCalls 76 = .ok (.iconst 0, 1) := by decide +kernel
theorem dX3_readCalls_77 : decode cX3_readCalls 77 = .ok (.ireturn, 1) := by decide +kernel
theorem dX4_init_0 : decode cX4_init 0 = .ok (.aload_n 0, 1) := by decide +kernel
theorem dX4_init_1 : decode cX4_init 1 = .ok (.invokespecial 3, 3) := by decide +kernel
theorem dX4_init_4 : decode cX4_init 4 = .ok (.aload_n 0, 1) := by decide +kernel
theorem dX4_init_5 : decode cX4_init 5 = .ok (.sipush 300, 3) := by decide +kernel
theorem dX4_init_8 : decode cX4_init 8 = .ok (.newarray .byte, 2) := by decide +kernel
theorem dX4_init_10 : decode cX4_init 10 = .ok (.putfield 9, 3) := by decide +kernel
theorem dX4_init_13 : decode cX4_init 13 = .ok (.return_, 1) := by decide +kernel
theorem dX4_append_0 : decode cX4_append 0 = .ok (.bipush 24, 2) := by decide +kernel
theorem dX4_append_2 : decode cX4_append 2 = .ok (.istore_n 2, 1) := by decide +kernel
theorem dX4_append_3 : decode cX4_append 3 = .ok (.iload_n 2, 1) := by decide +kernel
theorem dX4_append_4 : decode cX4_append 4 = .ok (.ifCond .lt 42, 3) := by decide +kernel
theorem dX4_append_7 : decode cX4_append 7 = .ok (.aload_n 0, 1) := by decide +kernel
theorem dX4_append_8 : decode cX4_append 8 = .ok (.getfield 15, 3) := by decide +kernel
theorem dX4_append_11 : decode cX4_append 11 = .ok (.sipush 300, 3) := by decide +kernel
theorem dX4_append_14 : decode cX4_append 14 = .ok (.if_icmp .ge 32, 3) := by decide +kernel
theorem dX4_append_17 : decode cX4_append 17 = .ok (.aload_n 0, 1) := by decide +kernel
theorem dX4_append_18 : decode cX4_append 18 = .ok (.getfield 9, 3) := by decide +kernel
theorem dX4_append_21 : decode cX4_append 21 = .ok (.aload_n 0, 1) := by decide +kernel
theorem dX4_append_22 : decode cX4_append 22 = .ok (.getfield 15, 3) := by decide +kernel
theorem dX4_append_25 : decode cX4_append 25 = .ok (.iload_n 1, 1) := by decide +kernel
theorem dX4_append_26 : decode cX4_append 26 = .ok (.iload_n 2, 1) := by decide +kernel
theorem dX4_append_27 : decode cX4_append 27 = .ok (.ishr, 1) := by decide +kernel
theorem dX4_append_28 : decode cX4_append 28 = .ok (.i2b, 1) := by decide +kernel
theorem dX4_append_29 : decode cX4_append 29 = .ok (.bastore, 1) := by decide +kernel
theorem dX4_append_30 : decode cX4_append 30 = .ok (.aload_n 0, 1) := by decide +kernel
theorem dX4_append_31 : decode cX4_append 31 = .ok (.dup, 1) := by decide +kernel
theorem dX4_append_32 : decode cX4_append 32 = .ok (.getfield 15, 3) := by decide +kernel
theorem dX4_append_35 : decode cX4_append 35 = .ok (.iconst 1, 1) := by decide +kernel
theorem dX4_append_36 : decode cX4_append 36 = .ok (.iadd, 1) := by decide +kernel
theorem dX4_append_37 : decode cX4_append 37 = .ok (.putfield 15, 3) := by decide +kernel
theorem dX4_append_40 : decode cX4_append 40 = .ok (.iinc 2 (-8), 3) := by decide +kernel
theorem dX4_append_43 : decode cX4_append 43 = .ok (.goto (-40), 3) := by decide +kernel
theorem dX4_append_46 : decode cX4_append 46 = .ok (.return_, 1) := by decide +kernel
theorem dX4_openText_0 : decode cX4_openText 0 = .ok (.aload_n 0, 1) := by decide +kernel
theorem dX4_openText_1 : decode cX4_openText 1 = .ok (.iload_n 1, 1) := by decide +kernel
theorem dX4_openText_2 : decode cX4_openText 2 = .ok (.sipush 300, 3) := by decide +kernel
theorem dX4_openText_5 : decode cX4_openText 5 = .ok (.invokestatic 19, 3) := by decide +kernel
theorem dX4_openText_8 : decode cX4_openText 8 = .ok (.putfield 25, 3) := by decide +kernel
theorem dX4_openText_11 : decode cX4_openText 11 = .ok (.aload_n 0, 1) := by decide +kernel
theorem dX4_openText_12 : decode cX4_openText 12 = .ok (.iconst 0, 1) := by decide +kernel
theorem dX4_openText_13 : decode cX4_openText 13 = .ok (.putfield 28, 3) := by decide +kernel
theorem dX4_openText_16 : decode cX4_openText 16 = .ok (.aload_n 0, 1) := by decide +kernel
theorem dX4_openText_17 : decode cX4_openText 17 = .ok (.iconst 0, 1) := by decide +kernel
theorem dX4_openText_18 : decode cX4_openText 18 = .ok (.putfield 15, 3) := by decide +kernel
theorem dX4_openText_21 : decode cX4_openText 21 = .ok (.return_, 1) := by decide +kernel
theorem dX4_next_0 : decode cX4_next 0 = .ok (.aload_n 0, 1) := by decide +kernel
theorem dX4_next_1 : decode cX4_next 1 = .ok (.getfield 28, 3) := by decide +kernel
theorem dX4_next_4 : decode cX4_next 4 = .ok (.ifCond .lt 14, 3) := by decide +kernel
theorem dX4_next_7 : decode cX4_next 7 = .ok (.aload_n 0, 1) := by decide +kernel
theorem dX4_next_8 : decode cX4_next 8 = .ok (.getfield 28, 3) := by decide +kernel
theorem dX4_next_11 : decode cX4_next 11 = .ok (.aload_n 0, 1) := by decide +kernel
theorem dX4_next_12 : decode cX4_next 12 = .ok (.getfield 25, 3) := by decide +kernel
theorem dX4_next_15 : decode cX4_next 15 = .ok (.if_icmp .lt 7, 3) := by decide +kernel
theorem dX4_next_18 : decode cX4_next 18 = .ok (.iconst (-1), 1) := by decide +kernel
theorem dX4_next_19 : decode cX4_next 19 = .ok (.goto 16, 3) := by decide +kernel
theorem dX4_next_22 : decode cX4_next 22 = .ok (.aload_n 0, 1) := by decide +kernel
theorem dX4_next_23 : decode cX4_next 23 = .ok (.getfield 9, 3) := by decide +kernel
theorem dX4_next_26 : decode cX4_next 26 = .ok (.aload_n 0, 1) := by decide +kernel
theorem dX4_next_27 : decode cX4_next 27 = .ok (.getfield 28, 3) := by decide +kernel
theorem dX4_next_30 : decode cX4_next 30 = .ok (.baload, 1) := by decide +kernel
theorem dX4_next_31 : decode cX4_next 31 = .ok (.sipush 255, 3) := by decide +kernel
theorem dX4_next_34 : decode cX4_next 34 = .ok (.iand, 1) := by decide +kernel
theorem dX4_next_35 : decode cX4_next 35 = .ok (.ireturn, 1) := by decide +kernel
theorem dX4_isAtEndOfPart_0 : decode cX4_isAtEndOfPart 0 = .ok (.aload_n 0, 1) := by decide +kernel
theorem dX4_isAtEndOfPart_1 : decode cX4_isAtEndOfPart 1 = .ok (.invokevirtual 31, 3) := by decide +kernel
theorem dX4_isAtEndOfPart_4 : decode cX4_isAtEndOfPart 4 = .ok (.istore_n 1, 1) := by decide +kernel
theorem dX4_isAtEndOfPart_5 : decode cX4_isAtEndOfPart 5 = .ok (.iload_n 1, 1) := by decide +kernel
theorem dX4_isAtEndOfPart_6 : decode cX4_isAtEndOfPart 6 = .ok (.iconst (-1), 1) := by decide +kernel
theorem dX4_isAtEndOfPart_7 : decode cX4_isAtEndOfPart 7 = .ok (.if_icmp .eq 9, 3) := by decide +kernel
theorem dX4_isAtEndOfPart_10 : decode cX4_isAtEndOfPart 10 = .ok (.iload_n 1, 1) := by decide +kernel
theorem dX4_isAtEndOfPart_11 : decode cX4_isAtEndOfPart 11 = .ok (.bipush 59, 2) := by decide +kernel
theorem dX4_isAtEndOfPart_13 : decode cX4_isAtEndOfPart 13 = .ok (.if_icmp .ne 7, 3) := by decide +kernel
theorem dX4_isAtEndOfPart_16 : decode cX4_isAtEndOfPart 16 = .ok (.iconst 1, 1) := by decide +kernel
theorem dX4_isAtEndOfPart_17 : decode cX4_isAtEndOfPart 17 = .ok (.goto 4, 3) := by decide +kernel
theorem dX4_isAtEndOfPart_20 : decode cX4_isAtEndOfPart 20 = .ok (.iconst 0, 1) := by decide +kernel
theorem dX4_isAtEndOfPart_21 : decode cX4_isAtEndOfPart 21 = .ok (.ireturn, 1) := by decide +kernel
theorem dX4_take_0 : decode cX4_take 0 = .ok (.aload_n 0, 1) := by decide +kernel
theorem dX4_take_1 : decode cX4_take 1 = .ok (.invokevirtual 31, 3) := by decide +kernel
theorem dX4_take_4 : decode cX4_take 4 = .ok (.iload_n 1, 1) := by decide +kernel
theorem dX4_take_5 : decode cX4_take 5 = .ok (.if_icmp .eq 5, 3) := by decide +kernel
theorem dX4_take_8 : decode cX4_take 8 = .ok (.iconst 0, 1) := by decide +kernel
theorem dX4_take_9 : decode cX4_take 9 = .ok (.ireturn, 1) := by decide +kernel
theorem dX4_take_10 : decode cX4_take 10 = .ok (.aload_n 0, 1) := by decide +kernel
theorem dX4_take_11 : decode cX4_take 11 = .ok (.dup, 1) := by decide +kernel
theorem dX4_take_12 : decode cX4_take 12 = .ok (.getfield 28, 3) := by decide +kernel
theorem dX4_take_15 : decode cX4_take 15 = .ok (.iconst 1, 1) := by decide +kernel
theorem dX4_take_16 : decode cX4_take 16 = .ok (.iadd, 1) := by decide +kernel
theorem dX4_take_17 : decode cX4_take 17 = .ok (.putfield 28, 3) := by decide +kernel
theorem dX4_take_20 : decode cX4_take 20 = .ok (.iconst 1, 1) := by decide +kernel
theorem dX4_take_21 : decode cX4_take 21 = .ok (.ireturn, 1) := by decide +kernel
theorem dX4_takeNumber_0 : decode cX4_takeNumber 0 = .ok (.aload_n 0, 1) := by decide +kernel
theorem dX4_takeNumber_1 : decode cX4_takeNumber 1 = .ok (.getfield 28, 3) := by decide +kernel
theorem dX4_takeNumber_4 : decode cX4_takeNumber 4 = .ok (.istore_n 3, 1) := by decide +kernel
theorem dX4_takeNumber_5 : decode cX4_takeNumber 5 = .ok (.iconst 0, 1) := by decide +kernel
theorem dX4_takeNumber_6 : decode cX4_takeNumber 6 = .ok (.istore 4, 2) := by decide +kernel
theorem dX4_takeNumber_8 : decode cX4_takeNumber 8 = .ok (.iconst 0, 1) := by decide +kernel
theorem dX4_takeNumber_9 : decode cX4_takeNumber 9 = .ok (.istore 5, 2) := by decide +kernel
theorem dX4_takeNumber_11 : decode cX4_takeNumber 11 = .ok (.iload 5, 2) := by decide +kernel
theorem dX4_takeNumber_13 : decode cX4_takeNumber 13 = .ok (.iload_n 1, 1) := by decide +kernel
theorem dX4_takeNumber_14 : decode cX4_takeNumber 14 = .ok (.if_icmp .ge 44, 3) := by decide +kernel
theorem dX4_takeNumber_17 : decode cX4_takeNumber 17 = .ok (.aload_n 0, 1) := by decide +kernel
theorem dX4_takeNumber_18 : decode cX4_takeNumber 18 = .ok (.invokevirtual 31, 3) := by decide +kernel
theorem dX4_takeNumber_21 : decode cX4_takeNumber 21 = .ok (.invokestatic 35, 3) := by decide +kernel
theorem dX4_takeNumber_24 : decode cX4_takeNumber 24 = .ok (.ifCond .eq 34, 3) := by decide +kernel
theorem dX4_takeNumber_27 : decode cX4_takeNumber 27 = .ok (.iload 4, 2) := by decide +kernel
theorem dX4_takeNumber_29 : decode cX4_takeNumber 29 = .ok (.bipush 10, 2) := by decide +kernel
theorem dX4_takeNumber_31 : decode cX4_takeNumber 31 = .ok (.imul, 1) := by decide +kernel
theorem dX4_takeNumber_32 : decode cX4_takeNumber 32 = .ok (.aload_n 0, 1) := by decide +kernel
theorem dX4_takeNumber_33 : decode cX4_takeNumber 33 = .ok (.invokevirtual 31, 3) := by decide +kernel
theorem dX4_takeNumber_36 : decode cX4_takeNumber 36 = .ok (.iadd, 1) := by decide +kernel
theorem dX4_takeNumber_37 : decode cX4_takeNumber 37 = .ok (.bipush 48, 2) := by decide +kernel
theorem dX4_takeNumber_39 : decode cX4_takeNumber 39 = .ok (.isub, 1) := by decide +kernel
theorem dX4_takeNumber_40 : decode cX4_takeNumber 40 = .ok (.istore 4, 2) := by decide +kernel
theorem dX4_takeNumber_42 : decode cX4_takeNumber 42 = .ok (.aload_n 0, 1) := by decide +kernel
theorem dX4_takeNumber_43 : decode cX4_takeNumber 43 = .ok (.dup, 1) := by decide +kernel
theorem dX4_takeNumber_44 : decode cX4_takeNumber 44 = .ok (.getfield 28, 3) := by decide +kernel
theorem dX4_takeNumber_47 : decode cX4_takeNumber 47 = .ok (.iconst 1, 1) := by decide +kernel
theorem dX4_takeNumber_48 : decode cX4_takeNumber 48 = .ok (.iadd, 1) := by decide +kernel
theorem dX4_takeNumber_49 : decode cX4_takeNumber 49 = .ok (.putfield 28, 3) := by decide +kernel
theorem dX4_takeNumber_52 : decode cX4_takeNumber 52 = .ok (.iinc 5 1, 3) := by decide +kernel
theorem dX4_takeNumber_55 : decode cX4_takeNumber 55 = .ok (.goto (-44), 3) := by decide +kernel
theorem dX4_takeNumber_58 : decode cX4_takeNumber 58 = .ok (.iload 5, 2) := by decide +kernel
theorem dX4_takeNumber_60 : decode cX4_takeNumber 60 = .ok (.ifCond .eq 13, 3) := by decide +kernel
theorem dX4_takeNumber_63 : decode cX4_takeNumber 63 = .ok (.aload_n 0, 1) := by decide +kernel
theorem dX4_takeNumber_64 : decode cX4_takeNumber 64 = .ok (.invokevirtual 31, 3) := by decide +kernel
theorem dX4_takeNumber_67 : decode cX4_takeNumber 67 = .ok (.invokestatic 35, 3) := by decide +kernel
theorem dX4_takeNumber_70 : decode cX4_takeNumber 70 = .ok (.ifCond .eq 5, 3) := by decide +kernel
theorem dX4_takeNumber_73 : decode cX4_takeNumber 73 = .ok (.iconst (-1), 1) := by decide +kernel
theorem dX4_takeNumber_74 : decode cX4_takeNumber 74 = .ok (.ireturn, 1) := by decide +kernel
theorem dX4_takeNumber_75 : decode cX4_takeNumber 75 = .ok (.iload 4, 2) := by decide +kernel
theorem dX4_takeNumber_77 : decode cX4_takeNumber 77 = .ok (.iload_n 2, 1) := by decide +kernel
theorem dX4_takeNumber_78 : decode cX4_takeNumber 78 = .ok (.if_icmp .le 11, 3) := by decide +kernel
theorem dX4_takeNumber_81 : decode cX4_takeNumber 81 = .ok (.aload_n 0, 1) := by decide +kernel
theorem dX4_takeNumber_82 : decode cX4_takeNumber 82 = .ok (.iload_n 3, 1) := by decide +kernel
theorem dX4_takeNumber_83 : decode cX4_takeNumber 83 = .ok (.invokevirtual 39, 3) := by decide +kernel
theorem dX4_takeNumber_86 : decode cX4_takeNumber 86 = .ok (.goto 5, 3) := by decide +kernel
theorem dX4_takeNumber_89 : decode cX4_takeNumber 89 = .ok (.iload 4, 2) := by decide +kernel
theorem dX4_takeNumber_91 : decode cX4_takeNumber 91 = .ok (.ireturn, 1) := by decide +kernel
theorem dX4_tearAt_0 : decode cX4_tearAt 0 = .ok (.aload_n 0, 1) := by decide +kernel
theorem dX4_tearAt_1 : decode cX4_tearAt 1 = .ok (.iload_n 1, 1) := by decide +kernel
theorem dX4_tearAt_2 : decode cX4_tearAt 2 = .ok (.putfield 28, 3) := by decide +kernel
theorem dX4_tearAt_5 : decode cX4_tearAt 5 = .ok (.iconst (-1), 1) := by decide +kernel
theorem dX4_tearAt_6 : decode cX4_tearAt 6 = .ok (.ireturn, 1) := by decide +kernel
theorem dX4_readHead_0 : decode cX4_readHead 0 = .ok (.aload_n 0, 1) := by decide +kernel
theorem dX4_readHead_1 : decode cX4_readHead 1 = .ok (.bipush 116, 2) := by decide +kernel
theorem dX4_readHead_3 : decode cX4_readHead 3 = .ok (.invokevirtual 43, 3) := by decide +kernel
theorem dX4_readHead_6 : decode cX4_readHead 6 = .ok (.ifCond .ne 5, 3) := by decide +kernel
theorem dX4_readHead_9 : decode cX4_readHead 9 = .ok (.iconst (-1), 1) := by decide +kernel
theorem dX4_readHead_10 : decode cX4_readHead 10 = .ok (.ireturn, 1) := by decide +kernel
theorem dX4_readHead_11 : decode cX4_readHead 11 = .ok (.aload_n 0, 1) := by decide +kernel
theorem dX4_readHead_12 : decode cX4_readHead 12 = .ok (.iconst 4, 1) := by decide +kernel
theorem dX4_readHead_13 : decode cX4_readHead 13 = .ok (.sipush 9999, 3) := by decide +kernel
theorem dX4_readHead_16 : decode cX4_readHead 16 = .ok (.invokevirtual 47, 3) := by decide +kernel
theorem dX4_readHead_19 : decode cX4_readHead 19 = .ok (.istore_n 1, 1) := by decide +kernel
theorem dX4_readHead_20 : decode cX4_readHead 20 = .ok (.aload_n 0, 1) := by decide +kernel
theorem dX4_readHead_21 : decode cX4_readHead 21 = .ok (.invokevirtual 50, 3) := by decide +kernel
theorem dX4_readHead_24 : decode cX4_readHead 24 = .ok (.ifCond .eq 7, 3) := by decide +kernel
theorem dX4_readHead_27 : decode cX4_readHead 27 = .ok (.iload_n 1, 1) := by decide +kernel
theorem dX4_readHead_28 : decode cX4_readHead 28 = .ok (.goto 4, 3) := by decide +kernel
theorem dX4_readHead_31 : decode cX4_readHead 31 = .ok (.iconst (-1), 1) := by decide +kernel
theorem dX4_readHead_32 : decode cX4_readHead 32 = .ok (.ireturn, 1) := by decide +kernel
theorem dX5_init_0 : decode cX5_init 0 = .ok (.aload_n 0, 1) := by decide +kernel
theorem dX5_init_1 : decode cX5_init 1 = .ok (.invokespecial 1, 3) := by decide +kernel
theorem dX5_init_4 : decode cX5_init 4 = .ok (.aload_n 0, 1) := by decide +kernel
theorem dX5_init_5 : decode cX5_init 5 = .ok (.new 7, 3) := by decide +kernel
theorem dX5_init_8 : decode cX5_init 8 = .ok (.dup, 1) := by decide +kernel
theorem dX5_init_9 : decode cX5_init 9 = .ok (.invokespecial 9, 3) := by decide +kernel
theorem dX5_init_12 : decode cX5_init 12 = .ok (.putfield 10, 3) := by decide +kernel
theorem dX5_init_15 : decode cX5_init 15 = .ok (.aload_n 0, 1) := by decide +kernel
theorem dX5_init_16 : decode cX5_init 16 = .ok (.bipush 8, 2) := by decide +kernel
theorem dX5_init_18 : decode cX5_init 18 = .ok (.anewarray 16, 3) := by decide +kernel
theorem dX5_init_21 : decode cX5_init 21 = .ok (.putfield 18, 3) := by decide +kernel
theorem dX5_init_24 : decode cX5_init 24 = .ok (.aload_n 0, 1) := by decide +kernel
theorem dX5_init_25 : decode cX5_init 25 = .ok (.new 22, 3) := by decide +kernel
theorem dX5_init_28 : decode cX5_init 28 = .ok (.dup, 1) := by decide +kernel
theorem dX5_init_29 : decode cX5_init 29 = .ok (.invokespecial 24, 3) := by decide +kernel
theorem dX5_init_32 : decode cX5_init 32 = .ok (.putfield 25, 3) := by decide +kernel
theorem dX5_init_35 : decode cX5_init 35 = .ok (.aload_n 0, 1) := by decide +kernel
theorem dX5_init_36 : decode cX5_init 36 = .ok (.iconst 0, 1) := by decide +kernel
theorem dX5_init_37 : decode cX5_init 37 = .ok (.putfield 29, 3) := by decide +kernel
theorem dX5_init_40 : decode cX5_init 40 = .ok (.aload_n 0, 1) := by decide +kernel
theorem dX5_init_41 : decode cX5_init 41 = .ok (.sipush 10000, 3) := by decide +kernel
theorem dX5_init_44 : decode cX5_init 44 = .ok (.putfield 33, 3) := by decide +kernel
theorem dX5_init_47 : decode cX5_init 47 = .ok (.aload_n 0, 1) := by decide +kernel
theorem dX5_init_48 : decode cX5_init 48 = .ok (.bipush 10, 2) := by decide +kernel
theorem dX5_init_50 : decode cX5_init 50 = .ok (.putfield 36, 3) := by decide +kernel
theorem dX5_init_53 : decode cX5_init 53 = .ok (.return_, 1) := by decide +kernel
theorem dX5_feed_0 : decode cX5_feed 0 = .ok (.aload_n 0, 1) := by decide +kernel
theorem dX5_feed_1 : decode cX5_feed 1 = .ok (.getfield 10, 3) := by decide +kernel
theorem dX5_feed_4 : decode cX5_feed 4 = .ok (.getfield 39, 3) := by decide +kernel
theorem dX5_feed_7 : decode cX5_feed 7 = .ok (.sipush 280, 3) := by decide +kernel
theorem dX5_feed_10 : decode cX5_feed 10 = .ok (.if_icmp .le 5, 3) := by decide +kernel
theorem dX5_feed_13 : decode cX5_feed 13 = .ok (.iconst (-1), 1) := by decide +kernel
theorem dX5_feed_14 : decode cX5_feed 14 = .ok (.ireturn, 1) := by decide +kernel
theorem dX5_feed_15 : decode cX5_feed 15 = .ok (.aload_n 0, 1) := by decide +kernel
theorem dX5_feed_16 : decode cX5_feed 16 = .ok (.getfield 10, 3) := by decide +kernel
theorem dX5_feed_19 : decode cX5_feed 19 = .ok (.iload_n 1, 1) := by decide +kernel
theorem dX5_feed_20 : decode cX5_feed 20 = .ok (.invokevirtual 42, 3) := by decide +kernel
theorem dX5_feed_23 : decode cX5_feed 23 = .ok (.aload_n 0, 1) := by decide +kernel
theorem dX5_feed_24 : decode cX5_feed 24 = .ok (.getfield 10, 3) := by decide +kernel
theorem dX5_feed_27 : decode cX5_feed 27 = .ok (.iload_n 2, 1) := by decide +kernel
theorem dX5_feed_28 : decode cX5_feed 28 = .ok (.invokevirtual 42, 3) := by decide +kernel
theorem dX5_feed_31 : decode cX5_feed 31 = .ok (.aload_n 0, 1) := by decide +kernel
theorem dX5_feed_32 : decode cX5_feed 32 = .ok (.getfield 10, 3) := by decide +kernel
theorem dX5_feed_35 : decode cX5_feed 35 = .ok (.iload_n 3, 1) := by decide +kernel
theorem dX5_feed_36 : decode cX5_feed 36 = .ok (.invokevirtual 42, 3) := by decide +kernel
theorem dX5_feed_39 : decode cX5_feed 39 = .ok (.aload_n 0, 1) := by decide +kernel
theorem dX5_feed_40 : decode cX5_feed 40 = .ok (.getfield 10, 3) := by decide +kernel
theorem dX5_feed_43 : decode cX5_feed 43 = .ok (.iload 4, 2) := by decide +kernel
theorem dX5_feed_45 : decode cX5_feed 45 = .ok (.invokevirtual 42, 3) := by decide +kernel
theorem dX5_feed_48 : decode cX5_feed 48 = .ok (.aload_n 0, 1) := by decide +kernel
theorem dX5_feed_49 : decode cX5_feed 49 = .ok (.getfield 10, 3) := by decide +kernel
theorem dX5_feed_52 : decode cX5_feed 52 = .ok (.iload 5, 2) := by decide +kernel
theorem dX5_feed_54 : decode cX5_feed 54 = .ok (.invokevirtual 42, 3) := by decide +kernel
theorem dX5_feed_57 : decode cX5_feed 57 = .ok (.aload_n 0, 1) := by decide +kernel
theorem dX5_feed_58 : decode cX5_feed 58 = .ok (.getfield 10, 3) := by decide +kernel
theorem dX5_feed_61 : decode cX5_feed 61 = .ok (.getfield 39, 3) := by decide +kernel
theorem dX5_feed_64 : decode cX5_feed 64 = .ok (.ireturn, 1) := by decide +kernel
theorem dX5_picture_0 : decode cX5_picture 0 = .ok (.iload_n 1, 1) := by decide +kernel
theorem dX5_picture_1 : decode cX5_picture 1 = .ok (.ifCond .lt 23, 3) := by decide +kernel
theorem dX5_picture_4 : decode cX5_picture 4 = .ok (.iload_n 1, 1) := by decide +kernel
theorem dX5_picture_5 : decode cX5_picture 5 = .ok (.aload_n 0, 1) := by decide +kernel
theorem dX5_picture_6 : decode cX5_picture 6 = .ok (.getfield 10, 3) := by decide +kernel
theorem dX5_picture_9 : decode cX5_picture 9 = .ok (.getfield 39, 3) := by decide +kernel
theorem dX5_picture_12 : decode cX5_picture 12 = .ok (.if_icmp .gt 12, 3) := by decide +kernel
theorem dX5_picture_15 : decode cX5_picture 15 = .ok (.aload_n 0, 1) := by decide +kernel
theorem dX5_picture_16 : decode cX5_picture 16 = .ok (.getfield 29, 3) := by decide +kernel
theorem dX5_picture_19 : decode cX5_picture 19 = .ok (.bipush 8, 2) := by decide +kernel
theorem dX5_picture_21 : decode cX5_picture 21 = .ok (.if_icmp .lt 5, 3) := by decide +kernel
theorem dX5_picture_24 : decode cX5_picture 24 = .ok (.iconst (-1), 1) := by decide +kernel
theorem dX5_picture_25 : decode cX5_picture 25 = .ok (.ireturn, 1) := by decide +kernel
theorem dX5_picture_26 : decode cX5_picture 26 = .ok (.aload_n 0, 1) := by decide +kernel
theorem dX5_picture_27 : decode cX5_picture 27 = .ok (.getfield 10, 3) := by decide +kernel
theorem dX5_picture_30 : decode cX5_picture 30 = .ok (.iload_n 1, 1) := by decide +kernel
theorem dX5_picture_31 : decode cX5_picture 31 = .ok (.invokevirtual 46, 3) := by decide +kernel
theorem dX5_picture_34 : decode cX5_picture 34 = .ok (.aload_n 0, 1) := by decide +kernel
theorem dX5_picture_35 : decode cX5_picture 35 = .ok (.getfield 10, 3) := by decide +kernel
theorem dX5_picture_38 : decode cX5_picture 38 = .ok (.invokevirtual 49, 3) := by decide +kernel
theorem dX5_picture_41 : decode cX5_picture 41 = .ok (.istore_n 2, 1) := by decide +kernel
theorem dX5_picture_42 : decode cX5_picture 42 = .ok (.iload_n 2, 1) := by decide +kernel
theorem dX5_picture_43 : decode cX5_picture 43 = .ok (.iconst (-1), 1) := by decide +kernel
theorem dX5_picture_44 : decode cX5_picture 44 = .ok (.if_icmp .eq 11, 3) := by decide +kernel
theorem dX5_picture_47 : decode cX5_picture 47 = .ok (.aload_n 0, 1) := by decide +kernel
theorem dX5_picture_48 : decode cX5_picture 48 = .ok (.iload_n 2, 1) := by decide +kernel
theorem dX5_picture_49 : decode cX5_picture 49 = .ok (.invokevirtual 53, 3) := by decide +kernel
theorem dX5_picture_52 : decode cX5_picture 52 = .ok (.ifCond .eq 6, 3) := by decide +kernel
theorem dX5_picture_55 : decode cX5_picture 55 = .ok (.bipush (-2), 2) := by decide +kernel
theorem dX5_picture_57 : decode cX5_picture 57 = .ok (.ireturn, 1) := by decide +kernel
theorem dX5_picture_58 : decode cX5_picture 58 = .ok (.new 16, 3) := by decide +kernel
theorem dX5_picture_61 : decode cX5_picture 61 = .ok (.dup, 1) := by decide +kernel
theorem dX5_picture_62 : decode cX5_picture 62 = .ok (.iload_n 2, 1) := by decide +kernel
theorem dX5_picture_63 : decode cX5_picture 63 = .ok (.invokespecial 57, 3) := by decide +kernel
theorem dX5_picture_66 : decode cX5_picture 66 = .ok (.astore_n 3, 1) := by decide +kernel
theorem dX5_picture_67 : decode cX5_picture 67 = .ok (.new 59, 3) := by decide +kernel
theorem dX5_picture_70 : decode cX5_picture 70 = .ok (.dup, 1) := by decide +kernel
theorem dX5_picture_71 : decode cX5_picture 71 = .ok (.aload_n 0, 1) := by decide +kernel
theorem dX5_picture_72 : decode cX5_picture 72 = .ok (.getfield 10, 3) := by decide +kernel
theorem dX5_picture_75 : decode cX5_picture 75 = .ok (.aload_n 3, 1) := by decide +kernel
theorem dX5_picture_76 : decode cX5_picture 76 = .ok (.invokespecial 61, 3) := by decide +kernel
theorem dX5_picture_79 : decode cX5_picture 79 = .ok (.invokevirtual 64, 3) := by decide +kernel
theorem dX5_picture_82 : decode cX5_picture 82 = .ok (.aload_n 3, 1) := by decide +kernel
theorem dX5_picture_83 : decode cX5_picture 83 = .ok (.invokevirtual 67, 3) := by decide +kernel
theorem dX5_picture_86 : decode cX5_picture 86 = .ok (.aload_n 0, 1) := by decide +kernel
theorem dX5_picture_87 : decode cX5_picture 87 = .ok (.getfield 25, 3) := by decide +kernel
theorem dX5_picture_90 : decode cX5_picture 90 = .ok (.aload_n 3, 1) := by decide +kernel
theorem dX5_picture_91 : decode cX5_picture 91 = .ok (.invokevirtual 70, 3) := by decide +kernel
theorem dX5_picture_94 : decode cX5_picture 94 = .ok (.aload_n 0, 1) := by decide +kernel
theorem dX5_picture_95 : decode cX5_picture 95 = .ok (.getfield 18, 3) := by decide +kernel
theorem dX5_picture_98 : decode cX5_picture 98 = .ok (.aload_n 0, 1) := by decide +kernel
theorem dX5_picture_99 : decode cX5_picture 99 = .ok (.getfield 29, 3) := by decide +kernel
theorem dX5_picture_102 : decode cX5_picture 102 = .ok (.aload_n 3, 1) := by decide +kernel
theorem dX5_picture_103 : decode cX5_picture 103 = .ok (.aastore, 1) := by decide +kernel
theorem dX5_picture_104 : decode cX5_picture 104 = .ok (.aload_n 0, 1) := by decide +kernel
theorem dX5_picture_105 : decode cX5_picture 105 = .ok (.dup, 1) := by decide +kernel
theorem dX5_picture_106 : decode cX5_picture 106 = .ok (.getfield 29, 3) := by decide +kernel
theorem dX5_picture_109 : decode cX5_picture 109 = .ok (.iconst 1, 1) := by decide +kernel
theorem dX5_picture_110 : decode cX5_picture 110 = .ok (.iadd, 1) := by decide +kernel
theorem dX5_picture_111 : decode cX5_picture 111 = .ok (.putfield 29, 3) := by decide +kernel
theorem dX5_picture_114 : decode cX5_picture 114 = .ok (.aload_n 0, 1) := by decide +kernel
theorem dX5_picture_115 : decode cX5_picture 115 = .ok (.getfield 29, 3) := by decide +kernel
theorem dX5_picture_118 : decode cX5_picture 118 = .ok (.iconst 1, 1) := by decide +kernel
theorem dX5_picture_119 : decode cX5_picture 119 = .ok (.isub, 1) := by decide +kernel
theorem dX5_picture_120 : decode cX5_picture 120 = .ok (.ireturn, 1) := by decide +kernel
theorem dX5_torn_0 : decode cX5_torn 0 = .ok (.aload_n 0, 1) := by decide +kernel
theorem dX5_torn_1 : decode cX5_torn 1 = .ok (.iload_n 1, 1) := by decide +kernel
theorem dX5_torn_2 : decode cX5_torn 2 = .ok (.invokevirtual 74, 3) := by decide +kernel
theorem dX5_torn_5 : decode cX5_torn 5 = .ok (.astore_n 2, 1) := by decide +kernel
theorem dX5_torn_6 : decode cX5_torn 6 = .ok (.aload_n 2, 1) := by decide +kernel
theorem dX5_torn_7 : decode cX5_torn 7 = .ok (.ifnonnull 7, 3) := by decide +kernel
theorem dX5_torn_10 : decode cX5_torn 10 = .ok (.iconst (-1), 1) := by decide +kernel
theorem dX5_torn_11 : decode cX5_torn 11 = .ok (.goto 7, 3) := by decide +kernel
theorem dX5_torn_14 : decode cX5_torn 14 = .ok (.aload_n 2, 1) := by decide +kernel
theorem dX5_torn_15 : decode cX5_torn 15 = .ok (.getfield 78, 3) := by decide +kernel
theorem dX5_torn_18 : decode cX5_torn 18 = .ok (.ireturn, 1) := by decide +kernel
theorem dX5_look_0 : decode cX5_look 0 = .ok (.aload_n 0, 1) := by decide +kernel
theorem dX5_look_1 : decode cX5_look 1 = .ok (.iload_n 1, 1) := by decide +kernel
theorem dX5_look_2 : decode cX5_look 2 = .ok (.iload_n 2, 1) := by decide +kernel
theorem dX5_look_3 : decode cX5_look 3 = .ok (.invokevirtual 81, 3) := by decide +kernel
theorem dX5_look_6 : decode cX5_look 6 = .ok (.astore 4, 2) := by decide +kernel
theorem dX5_look_8 : decode cX5_look 8 = .ok (.aload 4, 2) := by decide +kernel
theorem dX5_look_10 : decode cX5_look 10 = .ok (.ifnonnull 5, 3) := by decide +kernel
theorem dX5_look_13 : decode cX5_look 13 = .ok (.iconst (-1), 1) := by decide +kernel
theorem dX5_look_14 : decode cX5_look 14 = .ok (.ireturn, 1) := by decide +kernel
theorem dX5_look_15 : decode cX5_look 15 = .ok (.iload_n 3, 1) := by decide +kernel
theorem dX5_look_16 : decode cX5_look 16 = .ok (.tableswitch 66 0 4 #[36, 42, 48, 54, 60], 36) := by decide +kernel
theorem dX5_look_52 : decode cX5_look 52 = .ok (.aload 4, 2) := by decide +kernel
theorem dX5_look_54 : decode cX5_look 54 = .ok (.getfield 85, 3) := by decide +kernel
theorem dX5_look_57 : decode cX5_look 57 = .ok (.ireturn, 1) := by decide +kernel
theorem dX5_look_58 : decode cX5_look 58 = .ok (.aload 4, 2) := by decide +kernel
theorem dX5_look_60 : decode cX5_look 60 = .ok (.getfield 90, 3) := by decide +kernel
theorem dX5_look_63 : decode cX5_look 63 = .ok (.ireturn, 1) := by decide +kernel
theorem dX5_look_64 : decode cX5_look 64 = .ok (.aload 4, 2) := by decide +kernel
theorem dX5_look_66 : decode cX5_look 66 = .ok (.getfield 93, 3) := by decide +kernel
theorem dX5_look_69 : decode cX5_look 69 = .ok (.ireturn, 1) := by decide +kernel
theorem dX5_look_70 : decode cX5_look 70 = .ok (.aload 4, 2) := by decide +kernel
theorem dX5_look_72 : decode cX5_look 72 = .ok (.getfield 96, 3) := by decide +kernel
theorem dX5_look_75 : decode cX5_look 75 = .ok (.ireturn, 1) := by decide +kernel
theorem dX5_look_76 : decode cX5_look 76 = .ok (.aload 4, 2) := by decide +kernel
theorem dX5_look_78 : decode cX5_look 78 = .ok (.getfield 99, 3) := by decide +kernel
theorem dX5_look_81 : decode cX5_look 81 = .ok (.ireturn, 1) := by decide +kernel
theorem dX5_look_82 : decode cX5_look 82 = .ok (.iload_n 3, 1) := by decide +kernel
theorem dX5_look_83 : decode cX5_look 83 = .ok (.bipush 10, 2) := by decide +kernel
theorem dX5_look_85 : decode cX5_look 85 = .ok (.if_icmp .ge 7, 3) := by decide +kernel
theorem dX5_look_88 : decode cX5_look 88 = .ok (.iconst (-1), 1) := by decide +kernel
theorem dX5_look_89 : decode cX5_look 89 = .ok (.goto 12, 3) := by decide +kernel
theorem dX5_look_92 : decode cX5_look 92 = .ok (.aload 4, 2) := by decide +kernel
theorem dX5_look_94 : decode cX5_look 94 = .ok (.iload_n 3, 1) := by decide +kernel
theorem dX5_look_95 : decode cX5_look 95 = .ok (.bipush 10, 2) := by decide +kernel
theorem dX5_look_97 : decode cX5_look 97 = .ok (.isub, 1) := by decide +kernel
theorem dX5_look_98 : decode cX5_look 98 = .ok (.invokevirtual 102, 3) := by decide +kernel
theorem dX5_look_101 : decode cX5_look 101 = .ok (.ireturn, 1) := by decide +kernel
theorem dX5_holder_0 : decode cX5_holder 0 = .ok (.aload_n 0, 1) := by decide +kernel
theorem dX5_holder_1 : decode cX5_holder 1 = .ok (.iload_n 1, 1) := by decide +kernel
theorem dX5_holder_2 : decode cX5_holder 2 = .ok (.invokevirtual 74, 3) := by decide +kernel
theorem dX5_holder_5 : decode cX5_holder 5 = .ok (.astore_n 3, 1) := by decide +kernel
theorem dX5_holder_6 : decode cX5_holder 6 = .ok (.aload_n 3, 1) := by decide +kernel
theorem dX5_holder_7 : decode cX5_holder 7 = .ok (.ifnonnull 7, 3) := by decide +kernel
theorem dX5_holder_10 : decode cX5_holder 10 = .ok (.iconst (-1), 1) := by decide +kernel
theorem dX5_holder_11 : decode cX5_holder 11 = .ok (.goto 8, 3) := by decide +kernel
theorem dX5_holder_14 : decode cX5_holder 14 = .ok (.aload_n 3, 1) := by decide +kernel
theorem dX5_holder_15 : decode cX5_holder 15 = .ok (.iload_n 2, 1) := by decide +kernel
theorem dX5_holder_16 : decode cX5_holder 16 = .ok (.invokevirtual 106, 3) := by decide +kernel
theorem dX5_holder_19 : decode cX5_holder 19 = .ok (.ireturn, 1) := by decide +kernel
theorem dX5_rings_0 : decode cX5_rings 0 = .ok (.aload_n 0, 1) := by decide +kernel
theorem dX5_rings_1 : decode cX5_rings 1 = .ok (.iload_n 1, 1) := by decide +kernel
theorem dX5_rings_2 : decode cX5_rings 2 = .ok (.invokevirtual 74, 3) := by decide +kernel
theorem dX5_rings_5 : decode cX5_rings 5 = .ok (.astore_n 2, 1) := by decide +kernel
theorem dX5_rings_6 : decode cX5_rings 6 = .ok (.aload_n 2, 1) := by decide +kernel
theorem dX5_rings_7 : decode cX5_rings 7 = .ok (.ifnonnull 7, 3) := by decide +kernel
theorem dX5_rings_10 : decode cX5_rings 10 = .ok (.iconst (-1), 1) := by decide +kernel
theorem dX5_rings_11 : decode cX5_rings 11 = .ok (.goto 7, 3) := by decide +kernel
theorem dX5_rings_14 : decode cX5_rings 14 = .ok (.aload_n 2, 1) := by decide +kernel
theorem dX5_rings_15 : decode cX5_rings 15 = .ok (.invokevirtual 109, 3) := by decide +kernel
theorem dX5_rings_18 : decode cX5_rings 18 = .ok (.ireturn, 1) := by decide +kernel
theorem dX5_ring_0 : decode cX5_ring 0 = .ok (.aload_n 0, 1) := by decide +kernel
theorem dX5_ring_1 : decode cX5_ring 1 = .ok (.iload_n 1, 1) := by decide +kernel
theorem dX5_ring_2 : decode cX5_ring 2 = .ok (.invokevirtual 74, 3) := by decide +kernel
theorem dX5_ring_5 : decode cX5_ring 5 = .ok (.astore 4, 2) := by decide +kernel
theorem dX5_ring_7 : decode cX5_ring 7 = .ok (.aload 4, 2) := by decide +kernel
theorem dX5_ring_9 : decode cX5_ring 9 = .ok (.ifnonnull 7, 3) := by decide +kernel
theorem dX5_ring_12 : decode cX5_ring 12 = .ok (.iconst (-1), 1) := by decide +kernel
theorem dX5_ring_13 : decode cX5_ring 13 = .ok (.goto 10, 3) := by decide +kernel
theorem dX5_ring_16 : decode cX5_ring 16 = .ok (.aload 4, 2) := by decide +kernel
theorem dX5_ring_18 : decode cX5_ring 18 = .ok (.iload_n 2, 1) := by decide +kernel
theorem dX5_ring_19 : decode cX5_ring 19 = .ok (.iload_n 3, 1) := by decide +kernel
theorem dX5_ring_20 : decode cX5_ring 20 = .ok (.invokevirtual 112, 3) := by decide +kernel
theorem dX5_ring_23 : decode cX5_ring 23 = .ok (.ireturn, 1) := by decide +kernel
theorem dX5_foot_0 : decode cX5_foot 0 = .ok (.aload_n 0, 1) := by decide +kernel
theorem dX5_foot_1 : decode cX5_foot 1 = .ok (.iload_n 1, 1) := by decide +kernel
theorem dX5_foot_2 : decode cX5_foot 2 = .ok (.invokevirtual 74, 3) := by decide +kernel
theorem dX5_foot_5 : decode cX5_foot 5 = .ok (.astore_n 3, 1) := by decide +kernel
theorem dX5_foot_6 : decode cX5_foot 6 = .ok (.aload_n 3, 1) := by decide +kernel
theorem dX5_foot_7 : decode cX5_foot 7 = .ok (.ifnonnull 7, 3) := by decide +kernel
theorem dX5_foot_10 : decode cX5_foot 10 = .ok (.iconst (-1), 1) := by decide +kernel
theorem dX5_foot_11 : decode cX5_foot 11 = .ok (.goto 8, 3) := by decide +kernel
theorem dX5_foot_14 : decode cX5_foot 14 = .ok (.aload_n 3, 1) := by decide +kernel
theorem dX5_foot_15 : decode cX5_foot 15 = .ok (.iload_n 2, 1) := by decide +kernel
theorem dX5_foot_16 : decode cX5_foot 16 = .ok (.invokevirtual 116, 3) := by decide +kernel
theorem dX5_foot_19 : decode cX5_foot 19 = .ok (.ireturn, 1) := by decide +kernel
theorem dX5_through_0 : decode cX5_through 0 = .ok (.aload_n 0, 1) := by decide +kernel
theorem dX5_through_1 : decode cX5_through 1 = .ok (.iload_n 1, 1) := by decide +kernel
theorem dX5_through_2 : decode cX5_through 2 = .ok (.invokevirtual 74, 3) := by decide +kernel
theorem dX5_through_5 : decode cX5_through 5 = .ok (.astore_n 3, 1) := by decide +kernel
theorem dX5_through_6 : decode cX5_through 6 = .ok (.aload_n 3, 1) := by decide +kernel
theorem dX5_through_7 : decode cX5_through 7 = .ok (.ifnull 11, 3) := by decide +kernel
theorem dX5_through_10 : decode cX5_through 10 = .ok (.aload_n 3, 1) := by decide +kernel
theorem dX5_through_11 : decode cX5_through 11 = .ok (.iload_n 2, 1) := by decide +kernel
theorem dX5_through_12 : decode cX5_through 12 = .ok (.invokevirtual 119, 3) := by decide +kernel
theorem dX5_through_15 : decode cX5_through 15 = .ok (.ifnonnull 7, 3) := by decide +kernel
theorem dX5_through_18 : decode cX5_through 18 = .ok (.iconst (-1), 1) := by decide +kernel
theorem dX5_through_19 : decode cX5_through 19 = .ok (.goto 8, 3) := by decide +kernel
theorem dX5_through_22 : decode cX5_through 22 = .ok (.aload_n 3, 1) := by decide +kernel
theorem dX5_through_23 : decode cX5_through 23 = .ok (.iload_n 2, 1) := by decide +kernel
theorem dX5_through_24 : decode cX5_through 24 = .ok (.invokevirtual 123, 3) := by decide +kernel
theorem dX5_through_27 : decode cX5_through 27 = .ok (.ireturn, 1) := by decide +kernel
theorem dX5_weight_0 : decode cX5_weight 0 = .ok (.aload_n 0, 1) := by decide +kernel
theorem dX5_weight_1 : decode cX5_weight 1 = .ok (.iload_n 1, 1) := by decide +kernel
theorem dX5_weight_2 : decode cX5_weight 2 = .ok (.invokevirtual 74, 3) := by decide +kernel
theorem dX5_weight_5 : decode cX5_weight 5 = .ok (.astore_n 3, 1) := by decide +kernel
theorem dX5_weight_6 : decode cX5_weight 6 = .ok (.aload_n 3, 1) := by decide +kernel
theorem dX5_weight_7 : decode cX5_weight 7 = .ok (.ifnull 10, 3) := by decide +kernel
theorem dX5_weight_10 : decode cX5_weight 10 = .ok (.iload_n 2, 1) := by decide +kernel
theorem dX5_weight_11 : decode cX5_weight 11 = .ok (.invokestatic 126, 3) := by decide +kernel
theorem dX5_weight_14 : decode cX5_weight 14 = .ok (.ifCond .ne 7, 3) := by decide +kernel
theorem dX5_weight_17 : decode cX5_weight 17 = .ok (.iconst (-1), 1) := by decide +kernel
theorem dX5_weight_18 : decode cX5_weight 18 = .ok (.goto 8, 3) := by decide +kernel
theorem dX5_weight_21 : decode cX5_weight 21 = .ok (.aload_n 3, 1) := by decide +kernel
theorem dX5_weight_22 : decode cX5_weight 22 = .ok (.iload_n 2, 1) := by decide +kernel
theorem dX5_weight_23 : decode cX5_weight 23 = .ok (.invokevirtual 129, 3) := by decide +kernel
theorem dX5_weight_26 : decode cX5_weight 26 = .ok (.ireturn, 1) := by decide +kernel
theorem dX5_guilty_0 : decode cX5_guilty 0 = .ok (.aload_n 0, 1) := by decide +kernel
theorem dX5_guilty_1 : decode cX5_guilty 1 = .ok (.iload_n 1, 1) := by decide +kernel
theorem dX5_guilty_2 : decode cX5_guilty 2 = .ok (.invokevirtual 74, 3) := by decide +kernel
theorem dX5_guilty_5 : decode cX5_guilty 5 = .ok (.astore_n 2, 1) := by decide +kernel
theorem dX5_guilty_6 : decode cX5_guilty 6 = .ok (.aload_n 2, 1) := by decide +kernel
theorem dX5_guilty_7 : decode cX5_guilty 7 = .ok (.ifnonnull 7, 3) := by decide +kernel
theorem dX5_guilty_10 : decode cX5_guilty 10 = .ok (.iconst (-1), 1) := by decide +kernel
theorem dX5_guilty_11 : decode cX5_guilty 11 = .ok (.goto 7, 3) := by decide +kernel
theorem dX5_guilty_14 : decode cX5_guilty 14 = .ok (.aload_n 2, 1) := by decide +kernel
theorem dX5_guilty_15 : decode cX5_guilty 15 = .ok (.invokevirtual 132, 3) := by decide +kernel
theorem dX5_guilty_18 : decode cX5_guilty 18 = .ok (.ireturn, 1) := by decide +kernel
theorem dX5_stuck_0 : decode cX5_stuck 0 = .ok (.iconst 0, 1) := by decide +kernel
theorem dX5_stuck_1 : decode cX5_stuck 1 = .ok (.istore_n 2, 1) := by decide +kernel
theorem dX5_stuck_2 : decode cX5_stuck 2 = .ok (.iconst 0, 1) := by decide +kernel
theorem dX5_stuck_3 : decode cX5_stuck 3 = .ok (.istore_n 3, 1) := by decide +kernel
theorem dX5_stuck_4 : decode cX5_stuck 4 = .ok (.iload_n 3, 1) := by decide +kernel
theorem dX5_stuck_5 : decode cX5_stuck 5 = .ok (.bipush 24, 2) := by decide +kernel
theorem dX5_stuck_7 : decode cX5_stuck 7 = .ok (.if_icmp .ge 27, 3) := by decide +kernel
theorem dX5_stuck_10 : decode cX5_stuck 10 = .ok (.aload_n 0, 1) := by decide +kernel
theorem dX5_stuck_11 : decode cX5_stuck 11 = .ok (.iload_n 3, 1) := by decide +kernel
theorem dX5_stuck_12 : decode cX5_stuck 12 = .ok (.invokevirtual 135, 3) := by decide +kernel
theorem dX5_stuck_15 : decode cX5_stuck 15 = .ok (.ifCond .eq 13, 3) := by decide +kernel
theorem dX5_stuck_18 : decode cX5_stuck 18 = .ok (.iload_n 2, 1) := by decide +kernel
theorem dX5_stuck_19 : decode cX5_stuck 19 = .ok (.iload_n 1, 1) := by decide +kernel
theorem dX5_stuck_20 : decode cX5_stuck 20 = .ok (.if_icmp .ne 5, 3) := by decide +kernel
theorem dX5_stuck_23 : decode cX5_stuck 23 = .ok (.iload_n 3, 1) := by decide +kernel
theorem dX5_stuck_24 : decode cX5_stuck 24 = .ok (.ireturn, 1) := by decide +kernel
theorem dX5_stuck_25 : decode cX5_stuck 25 = .ok (.iinc 2 1, 3) := by decide +kernel
theorem dX5_stuck_28 : decode cX5_stuck 28 = .ok (.iinc 3 1, 3) := by decide +kernel
theorem dX5_stuck_31 : decode cX5_stuck 31 = .ok (.goto (-27), 3) := by decide +kernel
theorem dX5_stuck_34 : decode cX5_stuck 34 = .ok (.iconst (-1), 1) := by decide +kernel
theorem dX5_stuck_35 : decode cX5_stuck 35 = .ok (.ireturn, 1) := by decide +kernel
theorem dX5_broken_0 : decode cX5_broken 0 = .ok (.aload_n 0, 1) := by decide +kernel
theorem dX5_broken_1 : decode cX5_broken 1 = .ok (.getfield 25, 3) := by decide +kernel
theorem dX5_broken_4 : decode cX5_broken 4 = .ok (.iload_n 1, 1) := by decide +kernel
theorem dX5_broken_5 : decode cX5_broken 5 = .ok (.invokevirtual 138, 3) := by decide +kernel
theorem dX5_broken_8 : decode cX5_broken 8 = .ok (.ireturn, 1) := by decide +kernel
theorem dX5_meter_0 : decode cX5_meter 0 = .ok (.iload_n 1, 1) := by decide +kernel
theorem dX5_meter_1 : decode cX5_meter 1 = .ok (.iconst 2, 1) := by decide +kernel
theorem dX5_meter_2 : decode cX5_meter 2 = .ok (.if_icmp .lt 20, 3) := by decide +kernel
theorem dX5_meter_5 : decode cX5_meter 5 = .ok (.iload_n 1, 1) := by decide +kernel
theorem dX5_meter_6 : decode cX5_meter 6 = .ok (.sipush 10000, 3) := by decide +kernel
theorem dX5_meter_9 : decode cX5_meter 9 = .ok (.if_icmp .gt 13, 3) := by decide +kernel
theorem dX5_meter_12 : decode cX5_meter 12 = .ok (.iload_n 2, 1) := by decide +kernel
theorem dX5_meter_13 : decode cX5_meter 13 = .ok (.ifCond .lt 9, 3) := by decide +kernel
theorem dX5_meter_16 : decode cX5_meter 16 = .ok (.iload_n 2, 1) := by decide +kernel
theorem dX5_meter_17 : decode cX5_meter 17 = .ok (.bipush 100, 2) := by decide +kernel
theorem dX5_meter_19 : decode cX5_meter 19 = .ok (.if_icmp .le 5, 3) := by decide +kernel
theorem dX5_meter_22 : decode cX5_meter 22 = .ok (.iconst 0, 1) := by decide +kernel
theorem dX5_meter_23 : decode cX5_meter 23 = .ok (.ireturn, 1) := by decide +kernel
theorem dX5_meter_24 : decode cX5_meter 24 = .ok (.aload_n 0, 1) := by decide +kernel
theorem dX5_meter_25 : decode cX5_meter 25 = .ok (.iload_n 1, 1) := by decide +kernel
theorem dX5_meter_26 : decode cX5_meter 26 = .ok (.putfield 33, 3) := by decide +kernel
theorem dX5_meter_29 : decode cX5_meter 29 = .ok (.aload_n 0, 1) := by decide +kernel
theorem dX5_meter_30 : decode cX5_meter 30 = .ok (.iload_n 2, 1) := by decide +kernel
theorem dX5_meter_31 : decode cX5_meter 31 = .ok (.putfield 36, 3) := by decide +kernel
theorem dX5_meter_34 : decode cX5_meter 34 = .ok (.iconst 1, 1) := by decide +kernel
theorem dX5_meter_35 : decode cX5_meter 35 = .ok (.ireturn, 1) := by decide +kernel
theorem dX5_work_0 : decode cX5_work 0 = .ok (.aload_n 0, 1) := by decide +kernel
theorem dX5_work_1 : decode cX5_work 1 = .ok (.iload_n 2, 1) := by decide +kernel
theorem dX5_work_2 : decode cX5_work 2 = .ok (.invokevirtual 74, 3) := by decide +kernel
theorem dX5_work_5 : decode cX5_work 5 = .ok (.astore 5, 2) := by decide +kernel
theorem dX5_work_7 : decode cX5_work 7 = .ok (.aload_n 0, 1) := by decide +kernel
theorem dX5_work_8 : decode cX5_work 8 = .ok (.iload_n 3, 1) := by decide +kernel
theorem dX5_work_9 : decode cX5_work 9 = .ok (.invokevirtual 74, 3) := by decide +kernel
theorem dX5_work_12 : decode cX5_work 12 = .ok (.astore 6, 2) := by decide +kernel
theorem dX5_work_14 : decode cX5_work 14 = .ok (.aload 5, 2) := by decide +kernel
theorem dX5_work_16 : decode cX5_work 16 = .ok (.ifnull 13, 3) := by decide +kernel
theorem dX5_work_19 : decode cX5_work 19 = .ok (.aload 6, 2) := by decide +kernel
theorem dX5_work_21 : decode cX5_work 21 = .ok (.ifnull 8, 3) := by decide +kernel
theorem dX5_work_24 : decode cX5_work 24 = .ok (.iload_n 2, 1) := by decide +kernel
theorem dX5_work_25 : decode cX5_work 25 = .ok (.iload_n 3, 1) := by decide +kernel
theorem dX5_work_26 : decode cX5_work 26 = .ok (.if_icmp .ne 5, 3) := by decide +kernel
theorem dX5_work_29 : decode cX5_work 29 = .ok (.iconst (-1), 1) := by decide +kernel
theorem dX5_work_30 : decode cX5_work 30 = .ok (.ireturn, 1) := by decide +kernel
theorem dX5_work_31 : decode cX5_work 31 = .ok (.aload 5, 2) := by decide +kernel
theorem dX5_work_33 : decode cX5_work 33 = .ok (.getfield 141, 3) := by decide +kernel
theorem dX5_work_36 : decode cX5_work 36 = .ok (.aload 6, 2) := by decide +kernel
theorem dX5_work_38 : decode cX5_work 38 = .ok (.getfield 141, 3) := by decide +kernel
theorem dX5_work_41 : decode cX5_work 41 = .ok (.if_icmp .ge 17, 3) := by decide +kernel
theorem dX5_work_44 : decode cX5_work 44 = .ok (.aload_n 0, 1) := by decide +kernel
theorem dX5_work_45 : decode cX5_work 45 = .ok (.aload 5, 2) := by decide +kernel
theorem dX5_work_47 : decode cX5_work 47 = .ok (.aload 6, 2) := by decide +kernel
theorem dX5_work_49 : decode cX5_work 49 = .ok (.iload_n 1, 1) := by decide +kernel
theorem dX5_work_50 : decode cX5_work 50 = .ok (.iload 4, 2) := by decide +kernel
theorem dX5_work_52 : decode cX5_work 52 = .ok (.invokevirtual 144, 3) := by decide +kernel
theorem dX5_work_55 : decode cX5_work 55 = .ok (.goto 14, 3) := by decide +kernel
theorem dX5_work_58 : decode cX5_work 58 = .ok (.aload_n 0, 1) := by decide +kernel
theorem dX5_work_59 : decode cX5_work 59 = .ok (.aload 6, 2) := by decide +kernel
theorem dX5_work_61 : decode cX5_work 61 = .ok (.aload 5, 2) := by decide +kernel
theorem dX5_work_63 : decode cX5_work 63 = .ok (.iload_n 1, 1) := by decide +kernel
theorem dX5_work_64 : decode cX5_work 64 = .ok (.iload 4, 2) := by decide +kernel
theorem dX5_work_66 : decode cX5_work 66 = .ok (.invokevirtual 144, 3) := by decide +kernel
theorem dX5_work_69 : decode cX5_work 69 = .ok (.ireturn, 1) := by decide +kernel
theorem dX5_distance_0 : decode cX5_distance 0 = .ok (.aload_n 0, 1) := by decide +kernel
theorem dX5_distance_1 : decode cX5_distance 1 = .ok (.iload_n 1, 1) := by decide +kernel
theorem dX5_distance_2 : decode cX5_distance 2 = .ok (.invokevirtual 74, 3) := by decide +kernel
theorem dX5_distance_5 : decode cX5_distance 5 = .ok (.astore 4, 2) := by decide +kernel
theorem dX5_distance_7 : decode cX5_distance 7 = .ok (.aload 4, 2) := by decide +kernel
theorem dX5_distance_9 : decode cX5_distance 9 = .ok (.ifnull 21, 3) := by decide +kernel
theorem dX5_distance_12 : decode cX5_distance 12 = .ok (.aload 4, 2) := by decide +kernel
theorem dX5_distance_14 : decode cX5_distance 14 = .ok (.iload_n 2, 1) := by decide +kernel
theorem dX5_distance_15 : decode cX5_distance 15 = .ok (.invokevirtual 119, 3) := by decide +kernel
theorem dX5_distance_18 : decode cX5_distance 18 = .ok (.ifnull 12, 3) := by decide +kernel
theorem dX5_distance_21 : decode cX5_distance 21 = .ok (.aload 4, 2) := by decide +kernel
theorem dX5_distance_23 : decode cX5_distance 23 = .ok (.iload_n 3, 1) := by decide +kernel
theorem dX5_distance_24 : decode cX5_distance 24 = .ok (.invokevirtual 119, 3) := by decide +kernel
theorem dX5_distance_27 : decode cX5_distance 27 = .ok (.ifnonnull 5, 3) := by decide +kernel
theorem dX5_distance_30 : decode cX5_distance 30 = .ok (.iconst (-1), 1) := by decide +kernel
theorem dX5_distance_31 : decode cX5_distance 31 = .ok (.ireturn, 1) := by decide +kernel
theorem dX5_distance_32 : decode cX5_distance 32 = .ok (.aload 4, 2) := by decide +kernel
theorem dX5_distance_34 : decode cX5_distance 34 = .ok (.iload_n 2, 1) := by decide +kernel
theorem dX5_distance_35 : decode cX5_distance 35 = .ok (.iload_n 3, 1) := by decide +kernel
theorem dX5_distance_36 : decode cX5_distance 36 = .ok (.invokevirtual 148, 3) := by decide +kernel
theorem dX5_distance_39 : decode cX5_distance 39 = .ok (.ireturn, 1) := by decide +kernel
theorem dX5_heaps_0 : decode cX5_heaps 0 = .ok (.aload_n 0, 1) := by decide +kernel
theorem dX5_heaps_1 : decode cX5_heaps 1 = .ok (.iload_n 1, 1) := by decide +kernel
theorem dX5_heaps_2 : decode cX5_heaps 2 = .ok (.invokevirtual 74, 3) := by decide +kernel
theorem dX5_heaps_5 : decode cX5_heaps 5 = .ok (.astore_n 3, 1) := by decide +kernel
theorem dX5_heaps_6 : decode cX5_heaps 6 = .ok (.aload_n 3, 1) := by decide +kernel
theorem dX5_heaps_7 : decode cX5_heaps 7 = .ok (.ifnull 10, 3) := by decide +kernel
theorem dX5_heaps_10 : decode cX5_heaps 10 = .ok (.iload_n 2, 1) := by decide +kernel
theorem dX5_heaps_11 : decode cX5_heaps 11 = .ok (.invokestatic 151, 3) := by decide +kernel
theorem dX5_heaps_14 : decode cX5_heaps 14 = .ok (.ifCond .ne 7, 3) := by decide +kernel
theorem dX5_heaps_17 : decode cX5_heaps 17 = .ok (.iconst (-1), 1) := by decide +kernel
theorem dX5_heaps_18 : decode cX5_heaps 18 = .ok (.goto 8, 3) := by decide +kernel
theorem dX5_heaps_21 : decode cX5_heaps 21 = .ok (.aload_n 3, 1) := by decide +kernel
theorem dX5_heaps_22 : decode cX5_heaps 22 = .ok (.iload_n 2, 1) := by decide +kernel
theorem dX5_heaps_23 : decode cX5_heaps 23 = .ok (.invokevirtual 154, 3) := by decide +kernel
theorem dX5_heaps_26 : decode cX5_heaps 26 = .ok (.ireturn, 1) := by decide +kernel
theorem dX5_heap_0 : decode cX5_heap 0 = .ok (.aload_n 0, 1) := by decide +kernel
theorem dX5_heap_1 : decode cX5_heap 1 = .ok (.iload_n 1, 1) := by decide +kernel
theorem dX5_heap_2 : decode cX5_heap 2 = .ok (.invokevirtual 74, 3) := by decide +kernel
theorem dX5_heap_5 : decode cX5_heap 5 = .ok (.astore 4, 2) := by decide +kernel
theorem dX5_heap_7 : decode cX5_heap 7 = .ok (.aload 4, 2) := by decide +kernel
theorem dX5_heap_9 : decode cX5_heap 9 = .ok (.ifnull 19, 3) := by decide +kernel
theorem dX5_heap_12 : decode cX5_heap 12 = .ok (.aload 4, 2) := by decide +kernel
theorem dX5_heap_14 : decode cX5_heap 14 = .ok (.iload_n 3, 1) := by decide +kernel
theorem dX5_heap_15 : decode cX5_heap 15 = .ok (.invokevirtual 119, 3) := by decide +kernel
theorem dX5_heap_18 : decode cX5_heap 18 = .ok (.ifnull 10, 3) := by decide +kernel
theorem dX5_heap_21 : decode cX5_heap 21 = .ok (.iload_n 2, 1) := by decide +kernel
theorem dX5_heap_22 : decode cX5_heap 22 = .ok (.invokestatic 151, 3) := by decide +kernel
theorem dX5_heap_25 : decode cX5_heap 25 = .ok (.ifCond .ne 5, 3) := by decide +kernel
theorem dX5_heap_28 : decode cX5_heap 28 = .ok (.iconst (-1), 1) := by decide +kernel
theorem dX5_heap_29 : decode cX5_heap 29 = .ok (.ireturn, 1) := by decide +kernel
theorem dX5_heap_30 : decode cX5_heap 30 = .ok (.aload 4, 2) := by decide +kernel
theorem dX5_heap_32 : decode cX5_heap 32 = .ok (.iload_n 3, 1) := by decide +kernel
theorem dX5_heap_33 : decode cX5_heap 33 = .ok (.iload_n 2, 1) := by decide +kernel
theorem dX5_heap_34 : decode cX5_heap 34 = .ok (.invokevirtual 157, 3) := by decide +kernel
theorem dX5_heap_37 : decode cX5_heap 37 = .ok (.invokestatic 160, 3) := by decide +kernel
theorem dX5_heap_40 : decode cX5_heap 40 = .ok (.ireturn, 1) := by decide +kernel
theorem dX5_order_0 : decode cX5_order 0 = .ok (.iconst 0, 1) := by decide +kernel
theorem dX5_order_1 : decode cX5_order 1 = .ok (.istore_n 2, 1) := by decide +kernel
theorem dX5_order_2 : decode cX5_order 2 = .ok (.iload_n 2, 1) := by decide +kernel
theorem dX5_order_3 : decode cX5_order 3 = .ok (.aload_n 0, 1) := by decide +kernel
theorem dX5_order_4 : decode cX5_order 4 = .ok (.getfield 29, 3) := by decide +kernel
theorem dX5_order_7 : decode cX5_order 7 = .ok (.if_icmp .ge 33, 3) := by decide +kernel
theorem dX5_order_10 : decode cX5_order 10 = .ok (.aload_n 0, 1) := by decide +kernel
theorem dX5_order_11 : decode cX5_order 11 = .ok (.iload_n 2, 1) := by decide +kernel
theorem dX5_order_12 : decode cX5_order 12 = .ok (.invokevirtual 74, 3) := by decide +kernel
theorem dX5_order_15 : decode cX5_order 15 = .ok (.astore_n 3, 1) := by decide +kernel
theorem dX5_order_16 : decode cX5_order 16 = .ok (.aload_n 3, 1) := by decide +kernel
theorem dX5_order_17 : decode cX5_order 17 = .ok (.ifnull 17, 3) := by decide +kernel
theorem dX5_order_20 : decode cX5_order 20 = .ok (.aload_n 0, 1) := by decide +kernel
theorem dX5_order_21 : decode cX5_order 21 = .ok (.aload_n 3, 1) := by decide +kernel
theorem dX5_order_22 : decode cX5_order 22 = .ok (.getfield 141, 3) := by decide +kernel
theorem dX5_order_25 : decode cX5_order 25 = .ok (.invokevirtual 163, 3) := by decide +kernel
theorem dX5_order_28 : decode cX5_order 28 = .ok (.iload_n 1, 1) := by decide +kernel
theorem dX5_order_29 : decode cX5_order 29 = .ok (.if_icmp .ne 5, 3) := by decide +kernel
theorem dX5_order_32 : decode cX5_order 32 = .ok (.iload_n 2, 1) := by decide +kernel
theorem dX5_order_33 : decode cX5_order 33 = .ok (.ireturn, 1) := by decide +kernel
theorem dX5_order_34 : decode cX5_order 34 = .ok (.iinc 2 1, 3) := by decide +kernel
theorem dX5_order_37 : decode cX5_order 37 = .ok (.goto (-35), 3) := by decide +kernel
theorem dX5_order_40 : decode cX5_order 40 = .ok (.iconst (-1), 1) := by decide +kernel
theorem dX5_order_41 : decode cX5_order 41 = .ok (.ireturn, 1) := by decide +kernel
theorem dX5_count_0 : decode cX5_count 0 = .ok (.iload_n 1, 1) := by decide +kernel
theorem dX5_count_1 : decode cX5_count 1 = .ok (.iconst (-1), 1) := by decide +kernel
theorem dX5_count_2 : decode cX5_count 2 = .ok (.if_icmp .ne 9, 3) := by decide +kernel
theorem dX5_count_5 : decode cX5_count 5 = .ok (.aload_n 0, 1) := by decide +kernel
theorem dX5_count_6 : decode cX5_count 6 = .ok (.iload_n 2, 1) := by decide +kernel
theorem dX5_count_7 : decode cX5_count 7 = .ok (.invokevirtual 166, 3) := by decide +kernel
theorem dX5_count_10 : decode cX5_count 10 = .ok (.ireturn, 1) := by decide +kernel
theorem dX5_count_11 : decode cX5_count 11 = .ok (.aload_n 0, 1) := by decide +kernel
theorem dX5_count_12 : decode cX5_count 12 = .ok (.iload_n 1, 1) := by decide +kernel
theorem dX5_count_13 : decode cX5_count 13 = .ok (.invokevirtual 74, 3) := by decide +kernel
theorem dX5_count_16 : decode cX5_count 16 = .ok (.astore_n 3, 1) := by decide +kernel
theorem dX5_count_17 : decode cX5_count 17 = .ok (.aload_n 3, 1) := by decide +kernel
theorem dX5_count_18 : decode cX5_count 18 = .ok (.ifnonnull 5, 3) := by decide +kernel
theorem dX5_count_21 : decode cX5_count 21 = .ok (.iconst (-1), 1) := by decide +kernel
theorem dX5_count_22 : decode cX5_count 22 = .ok (.ireturn, 1) := by decide +kernel
theorem dX5_count_23 : decode cX5_count 23 = .ok (.iload_n 2, 1) := by decide +kernel
theorem dX5_count_24 : decode cX5_count 24 = .ok (.tableswitch 52 0 3 #[32, 37, 42, 47], 32) := by decide +kernel
theorem dX5_count_56 : decode cX5_count 56 = .ok (.aload_n 3, 1) := by decide +kernel
theorem dX5_count_57 : decode cX5_count 57 = .ok (.getfield 141, 3) := by decide +kernel
theorem dX5_count_60 : decode cX5_count 60 = .ok (.ireturn, 1) := by decide +kernel
theorem dX5_count_61 : decode cX5_count 61 = .ok (.aload_n 3, 1) := by decide +kernel
theorem dX5_count_62 : decode cX5_count 62 = .ok (.getfield 169, 3) := by decide +kernel
theorem dX5_count_65 : decode cX5_count 65 = .ok (.ireturn, 1) := by decide +kernel
theorem dX5_count_66 : decode cX5_count 66 = .ok (.aload_n 3, 1) := by decide +kernel
theorem dX5_count_67 : decode cX5_count 67 = .ok (.getfield 172, 3) := by decide +kernel
theorem dX5_count_70 : decode cX5_count 70 = .ok (.ireturn, 1) := by decide +kernel
theorem dX5_count_71 : decode cX5_count 71 = .ok (.aload_n 3, 1) := by decide +kernel
theorem dX5_count_72 : decode cX5_count 72 = .ok (.getfield 175, 3) := by decide +kernel
theorem dX5_count_75 : decode cX5_count 75 = .ok (.ireturn, 1) := by decide +kernel
theorem dX5_count_76 : decode cX5_count 76 = .ok (.iconst (-1), 1) := by decide +kernel
theorem dX5_count_77 : decode cX5_count 77 = .ok (.ireturn, 1) := by decide +kernel
theorem dX5_workBetween_0 : decode cX5_workBetween 0 = .ok (.aload_n 1, 1) := by decide +kernel
theorem dX5_workBetween_1 : decode cX5_workBetween 1 = .ok (.iload_n 3, 1) := by decide +kernel
theorem dX5_workBetween_2 : decode cX5_workBetween 2 = .ok (.invokevirtual 119, 3) := by decide +kernel
theorem dX5_workBetween_5 : decode cX5_workBetween 5 = .ok (.astore 5, 2) := by decide +kernel
theorem dX5_workBetween_7 : decode cX5_workBetween 7 = .ok (.aload_n 2, 1) := by decide +kernel
theorem dX5_workBetween_8 : decode cX5_workBetween 8 = .ok (.iload_n 3, 1) := by decide +kernel
theorem dX5_workBetween_9 : decode cX5_workBetween 9 = .ok (.invokevirtual 119, 3) := by decide +kernel
theorem dX5_workBetween_12 : decode cX5_workBetween 12 = .ok (.astore 6, 2) := by decide +kernel
theorem dX5_workBetween_14 : decode cX5_workBetween 14 = .ok (.aload 5, 2) := by decide +kernel
theorem dX5_workBetween_16 : decode cX5_workBetween 16 = .ok (.ifnull 8, 3) := by decide +kernel
theorem dX5_workBetween_19 : decode cX5_workBetween 19 = .ok (.aload 6, 2) := by decide +kernel
theorem dX5_workBetween_21 : decode cX5_workBetween 21 = .ok (.ifnonnull 5, 3) := by decide +kernel
theorem dX5_workBetween_24 : decode cX5_workBetween 24 = .ok (.iconst (-1), 1) := by decide +kernel
theorem dX5_workBetween_25 : decode cX5_workBetween 25 = .ok (.ireturn, 1) := by decide +kernel
theorem dX5_workBetween_26 : decode cX5_workBetween 26 = .ok (.aload 6, 2) := by decide +kernel
theorem dX5_workBetween_28 : decode cX5_workBetween 28 = .ok (.getfield 90, 3) := by decide +kernel
theorem dX5_workBetween_31 : decode cX5_workBetween 31 = .ok (.aload 5, 2) := by decide +kernel
theorem dX5_workBetween_33 : decode cX5_workBetween 33 = .ok (.getfield 90, 3) := by decide +kernel
theorem dX5_workBetween_36 : decode cX5_workBetween 36 = .ok (.isub, 1) := by decide +kernel
theorem dX5_workBetween_37 : decode cX5_workBetween 37 = .ok (.aload_n 0, 1) := by decide +kernel
theorem dX5_workBetween_38 : decode cX5_workBetween 38 = .ok (.getfield 33, 3) := by decide +kernel
theorem dX5_workBetween_41 : decode cX5_workBetween 41 = .ok (.invokestatic 178, 3) := by decide +kernel
theorem dX5_workBetween_44 : decode cX5_workBetween 44 = .ok (.istore 7, 2) := by decide +kernel
theorem dX5_workBetween_46 : decode cX5_workBetween 46 = .ok (.aload_n 0, 1) := by decide +kernel
theorem dX5_workBetween_47 : decode cX5_workBetween 47 = .ok (.getfield 36, 3) := by decide +kernel
theorem dX5_workBetween_50 : decode cX5_workBetween 50 = .ok (.aload_n 2, 1) := by decide +kernel
theorem dX5_workBetween_51 : decode cX5_workBetween 51 = .ok (.getfield 141, 3) := by decide +kernel
theorem dX5_workBetween_54 : decode cX5_workBetween 54 = .ok (.aload_n 1, 1) := by decide +kernel
theorem dX5_workBetween_55 : decode cX5_workBetween 55 = .ok (.getfield 141, 3) := by decide +kernel
theorem dX5_workBetween_58 : decode cX5_workBetween 58 = .ok (.isub, 1) := by decide +kernel
theorem dX5_workBetween_59 : decode cX5_workBetween 59 = .ok (.imul, 1) := by decide +kernel
theorem dX5_workBetween_60 : decode cX5_workBetween 60 = .ok (.istore 8, 2) := by decide +kernel
theorem dX5_workBetween_62 : decode cX5_workBetween 62 = .ok (.iload 7, 2) := by decide +kernel
theorem dX5_workBetween_64 : decode cX5_workBetween 64 = .ok (.iload 8, 2) := by decide +kernel
theorem dX5_workBetween_66 : decode cX5_workBetween 66 = .ok (.if_icmp .le 7, 3) := by decide +kernel
theorem dX5_workBetween_69 : decode cX5_workBetween 69 = .ok (.iconst 0, 1) := by decide +kernel
theorem dX5_workBetween_70 : decode cX5_workBetween 70 = .ok (.goto 15, 3) := by decide +kernel
theorem dX5_workBetween_73 : decode cX5_workBetween 73 = .ok (.iload 8, 2) := by decide +kernel
theorem dX5_workBetween_75 : decode cX5_workBetween 75 = .ok (.iload 7, 2) := by decide +kernel
theorem dX5_workBetween_77 : decode cX5_workBetween 77 = .ok (.isub, 1) := by decide +kernel
theorem dX5_workBetween_78 : decode cX5_workBetween 78 = .ok (.aload_n 0, 1) := by decide +kernel
theorem dX5_workBetween_79 : decode cX5_workBetween 79 = .ok (.getfield 33, 3) := by decide +kernel
theorem dX5_workBetween_82 : decode cX5_workBetween 82 = .ok (.idiv, 1) := by decide +kernel
theorem dX5_workBetween_83 : decode cX5_workBetween 83 = .ok (.iconst 1, 1) := by decide +kernel
theorem dX5_workBetween_84 : decode cX5_workBetween 84 = .ok (.iadd, 1) := by decide +kernel
theorem dX5_workBetween_85 : decode cX5_workBetween 85 = .ok (.istore 9, 2) := by decide +kernel
theorem dX5_workBetween_87 : decode cX5_workBetween 87 = .ok (.iload 4, 2) := by decide +kernel
theorem dX5_workBetween_89 : decode cX5_workBetween 89 = .ok (.iconst 2, 1) := by decide +kernel
theorem dX5_workBetween_90 : decode cX5_workBetween 90 = .ok (.if_icmp .ne 6, 3) := by decide +kernel
theorem dX5_workBetween_93 : decode cX5_workBetween 93 = .ok (.iload 9, 2) := by decide +kernel
theorem dX5_workBetween_95 : decode cX5_workBetween 95 = .ok (.ireturn, 1) := by decide +kernel
theorem dX5_workBetween_96 : decode cX5_workBetween 96 = .ok (.iload 9, 2) := by decide +kernel
theorem dX5_workBetween_98 : decode cX5_workBetween 98 = .ok (.ifCond .eq 14, 3) := by decide +kernel
theorem dX5_workBetween_101 : decode cX5_workBetween 101 = .ok (.iload 4, 2) := by decide +kernel
theorem dX5_workBetween_103 : decode cX5_workBetween 103 = .ok (.ifCond .lt 9, 3) := by decide +kernel
theorem dX5_workBetween_106 : decode cX5_workBetween 106 = .ok (.iload 4, 2) := by decide +kernel
theorem dX5_workBetween_108 : decode cX5_workBetween 108 = .ok (.iconst 2, 1) := by decide +kernel
theorem dX5_workBetween_109 : decode cX5_workBetween 109 = .ok (.if_icmp .le 5, 3) := by decide +kernel
theorem dX5_workBetween_112 : decode cX5_workBetween 112 = .ok (.iconst (-1), 1) := by decide +kernel
theorem dX5_workBetween_113 : decode cX5_workBetween 113 = .ok (.ireturn, 1) := by decide +kernel
theorem dX5_workBetween_114 : decode cX5_workBetween 114 = .ok (.iload 4, 2) := by decide +kernel
theorem dX5_workBetween_116 : decode cX5_workBetween 116 = .ok (.ifCond .ne 8, 3) := by decide +kernel
theorem dX5_workBetween_119 : decode cX5_workBetween 119 = .ok (.iload 7, 2) := by decide +kernel
theorem dX5_workBetween_121 : decode cX5_workBetween 121 = .ok (.goto 15, 3) := by decide +kernel
theorem dX5_workBetween_124 : decode cX5_workBetween 124 = .ok (.iload 7, 2) := by decide +kernel
theorem dX5_workBetween_126 : decode cX5_workBetween 126 = .ok (.iload 9, 2) := by decide +kernel
theorem dX5_workBetween_128 : decode cX5_workBetween 128 = .ok (.iconst 1, 1) := by decide +kernel
theorem dX5_workBetween_129 : decode cX5_workBetween 129 = .ok (.isub, 1) := by decide +kernel
theorem dX5_workBetween_130 : decode cX5_workBetween 130 = .ok (.aload_n 0, 1) := by decide +kernel
theorem dX5_workBetween_131 : decode cX5_workBetween 131 = .ok (.getfield 33, 3) := by decide +kernel
theorem dX5_workBetween_134 : decode cX5_workBetween 134 = .ok (.imul, 1) := by decide +kernel
theorem dX5_workBetween_135 : decode cX5_workBetween 135 = .ok (.iadd, 1) := by decide +kernel
theorem dX5_workBetween_136 : decode cX5_workBetween 136 = .ok (.ireturn, 1) := by decide +kernel
theorem dX5_countOfReader_0 : decode cX5_countOfReader 0 = .ok (.iload_n 1, 1) := by decide +kernel
theorem dX5_countOfReader_1 : decode cX5_countOfReader 1 = .ok (.tableswitch 54 0 3 #[31, 36, 44, 49], 31) := by decide +kernel
theorem dX5_countOfReader_32 : decode cX5_countOfReader 32 = .ok (.aload_n 0, 1) := by decide +kernel
theorem dX5_countOfReader_33 : decode cX5_countOfReader 33 = .ok (.getfield 29, 3) := by decide +kernel
theorem dX5_countOfReader_36 : decode cX5_countOfReader 36 = .ok (.ireturn, 1) := by decide +kernel
theorem dX5_countOfReader_37 : decode cX5_countOfReader 37 = .ok (.aload_n 0, 1) := by decide +kernel
theorem dX5_countOfReader_38 : decode cX5_countOfReader 38 = .ok (.getfield 10, 3) := by decide +kernel
theorem dX5_countOfReader_41 : decode cX5_countOfReader 41 = .ok (.getfield 39, 3) := by decide +kernel
theorem dX5_countOfReader_44 : decode cX5_countOfReader 44 = .ok (.ireturn, 1) := by decide +kernel
theorem dX5_countOfReader_45 : decode cX5_countOfReader 45 = .ok (.aload_n 0, 1) := by decide +kernel
theorem dX5_countOfReader_46 : decode cX5_countOfReader 46 = .ok (.getfield 33, 3) := by decide +kernel
theorem dX5_countOfReader_49 : decode cX5_countOfReader 49 = .ok (.ireturn, 1) := by decide +kernel
theorem dX5_countOfReader_50 : decode cX5_countOfReader 50 = .ok (.aload_n 0, 1) := by decide +kernel
theorem dX5_countOfReader_51 : decode cX5_countOfReader 51 = .ok (.getfield 36, 3) := by decide +kernel
theorem dX5_countOfReader_54 : decode cX5_countOfReader 54 = .ok (.ireturn, 1) := by decide +kernel
theorem dX5_countOfReader_55 : decode cX5_countOfReader 55 = .ok (.iconst (-1), 1) := by decide +kernel
theorem dX5_countOfReader_56 : decode cX5_countOfReader 56 = .ok (.ireturn, 1) := by decide +kernel
theorem dX5_pictureAt_0 : decode cX5_pictureAt 0 = .ok (.iload_n 1, 1) := by decide +kernel
theorem dX5_pictureAt_1 : decode cX5_pictureAt 1 = .ok (.ifCond .lt 11, 3) := by decide +kernel
theorem dX5_pictureAt_4 : decode cX5_pictureAt 4 = .ok (.iload_n 1, 1) := by decide +kernel
theorem dX5_pictureAt_5 : decode cX5_pictureAt 5 = .ok (.aload_n 0, 1) := by decide +kernel
theorem dX5_pictureAt_6 : decode cX5_pictureAt 6 = .ok (.getfield 29, 3) := by decide +kernel
theorem dX5_pictureAt_9 : decode cX5_pictureAt 9 = .ok (.if_icmp .lt 7, 3) := by decide +kernel
theorem dX5_pictureAt_12 : decode cX5_pictureAt 12 = .ok (.aconst_null, 1) := by decide +kernel
theorem dX5_pictureAt_13 : decode cX5_pictureAt 13 = .ok (.goto 9, 3) := by decide +kernel
theorem dX5_pictureAt_16 : decode cX5_pictureAt 16 = .ok (.aload_n 0, 1) := by decide +kernel
theorem dX5_pictureAt_17 : decode cX5_pictureAt 17 = .ok (.getfield 18, 3) := by decide +kernel
theorem dX5_pictureAt_20 : decode cX5_pictureAt 20 = .ok (.iload_n 1, 1) := by decide +kernel
theorem dX5_pictureAt_21 : decode cX5_pictureAt 21 = .ok (.aaload, 1) := by decide +kernel
theorem dX5_pictureAt_22 : decode cX5_pictureAt 22 = .ok (.areturn, 1) := by decide +kernel
theorem dX5_rowAt_0 : decode cX5_rowAt 0 = .ok (.aload_n 0, 1) := by decide +kernel
theorem dX5_rowAt_1 : decode cX5_rowAt 1 = .ok (.iload_n 1, 1) := by decide +kernel
theorem dX5_rowAt_2 : decode cX5_rowAt 2 = .ok (.invokevirtual 74, 3) := by decide +kernel
theorem dX5_rowAt_5 : decode cX5_rowAt 5 = .ok (.astore_n 3, 1) := by decide +kernel
theorem dX5_rowAt_6 : decode cX5_rowAt 6 = .ok (.aload_n 3, 1) := by decide +kernel
theorem dX5_rowAt_7 : decode cX5_rowAt 7 = .ok (.ifnonnull 7, 3) := by decide +kernel
theorem dX5_rowAt_10 : decode cX5_rowAt 10 = .ok (.aconst_null, 1) := by decide +kernel
theorem dX5_rowAt_11 : decode cX5_rowAt 11 = .ok (.goto 8, 3) := by decide +kernel
theorem dX5_rowAt_14 : decode cX5_rowAt 14 = .ok (.aload_n 3, 1) := by decide +kernel
theorem dX5_rowAt_15 : decode cX5_rowAt 15 = .ok (.iload_n 2, 1) := by decide +kernel
theorem dX5_rowAt_16 : decode cX5_rowAt 16 = .ok (.invokevirtual 119, 3) := by decide +kernel
theorem dX5_rowAt_19 : decode cX5_rowAt 19 = .ok (.areturn, 1) := by decide +kernel
theorem dX5_isTickTaken_0 : decode cX5_isTickTaken 0 = .ok (.aload_n 0, 1) := by decide +kernel
theorem dX5_isTickTaken_1 : decode cX5_isTickTaken 1 = .ok (.getfield 18, 3) := by decide +kernel
theorem dX5_isTickTaken_4 : decode cX5_isTickTaken 4 = .ok (.astore_n 2, 1) := by decide +kernel
theorem dX5_isTickTaken_5 : decode cX5_isTickTaken 5 = .ok (.aload_n 2, 1) := by decide +kernel
theorem dX5_isTickTaken_6 : decode cX5_isTickTaken 6 = .ok (.arraylength, 1) := by decide +kernel
theorem dX5_isTickTaken_7 : decode cX5_isTickTaken 7 = .ok (.istore_n 3, 1) := by decide +kernel
theorem dX5_isTickTaken_8 : decode cX5_isTickTaken 8 = .ok (.iconst 0, 1) := by decide +kernel
theorem dX5_isTickTaken_9 : decode cX5_isTickTaken 9 = .ok (.istore 4, 2) := by decide +kernel
theorem dX5_isTickTaken_11 : decode cX5_isTickTaken 11 = .ok (.iload 4, 2) := by decide +kernel
theorem dX5_isTickTaken_13 : decode cX5_isTickTaken 13 = .ok (.iload_n 3, 1) := by decide +kernel
theorem dX5_isTickTaken_14 : decode cX5_isTickTaken 14 = .ok (.if_icmp .ge 31, 3) := by decide +kernel
theorem dX5_isTickTaken_17 : decode cX5_isTickTaken 17 = .ok (.aload_n 2, 1) := by decide +kernel
theorem dX5_isTickTaken_18 : decode cX5_isTickTaken 18 = .ok (.iload 4, 2) := by decide +kernel
theorem dX5_isTickTaken_20 : decode cX5_isTickTaken 20 = .ok (.aaload, 1) := by decide +kernel
theorem dX5_isTickTaken_21 : decode cX5_isTickTaken 21 = .ok (.astore 5, 2) := by decide +kernel
theorem dX5_isTickTaken_23 : decode cX5_isTickTaken 23 = .ok (.aload 5, 2) := by decide +kernel
theorem dX5_isTickTaken_25 : decode cX5_isTickTaken 25 = .ok (.ifnull 14, 3) := by decide +kernel
theorem dX5_isTickTaken_28 : decode cX5_isTickTaken 28 = .ok (.aload 5, 2) := by decide +kernel
theorem dX5_isTickTaken_30 : decode cX5_isTickTaken 30 = .ok (.getfield 141, 3) := by decide +kernel
theorem dX5_isTickTaken_33 : decode cX5_isTickTaken 33 = .ok (.iload_n 1, 1) := by decide +kernel
theorem dX5_isTickTaken_34 : decode cX5_isTickTaken 34 = .ok (.if_icmp .ne 5, 3) := by decide +kernel
theorem dX5_isTickTaken_37 : decode cX5_isTickTaken 37 = .ok (.iconst 1, 1) := by decide +kernel
theorem dX5_isTickTaken_38 : decode cX5_isTickTaken 38 = .ok (.ireturn, 1) := by decide +kernel
theorem dX5_isTickTaken_39 : decode cX5_isTickTaken 39 = .ok (.iinc 4 1, 3) := by decide +kernel
theorem dX5_isTickTaken_42 : decode cX5_isTickTaken 42 = .ok (.goto (-31), 3) := by decide +kernel
theorem dX5_isTickTaken_45 : decode cX5_isTickTaken 45 = .ok (.iconst 0, 1) := by decide +kernel
theorem dX5_isTickTaken_46 : decode cX5_isTickTaken 46 = .ok (.ireturn, 1) := by decide +kernel
theorem dX5_countAhead_0 : decode cX5_countAhead 0 = .ok (.iconst 0, 1) := by decide +kernel
theorem dX5_countAhead_1 : decode cX5_countAhead 1 = .ok (.istore_n 2, 1) := by decide +kernel
theorem dX5_countAhead_2 : decode cX5_countAhead 2 = .ok (.aload_n 0, 1) := by decide +kernel
theorem dX5_countAhead_3 : decode cX5_countAhead 3 = .ok (.getfield 18, 3) := by decide +kernel
theorem dX5_countAhead_6 : decode cX5_countAhead 6 = .ok (.astore_n 3, 1) := by decide +kernel
theorem dX5_countAhead_7 : decode cX5_countAhead 7 = .ok (.aload_n 3, 1) := by decide +kernel
theorem dX5_countAhead_8 : decode cX5_countAhead 8 = .ok (.arraylength, 1) := by decide +kernel
theorem dX5_countAhead_9 : decode cX5_countAhead 9 = .ok (.istore 4, 2) := by decide +kernel
theorem dX5_countAhead_11 : decode cX5_countAhead 11 = .ok (.iconst 0, 1) := by decide +kernel
theorem dX5_countAhead_12 : decode cX5_countAhead 12 = .ok (.istore 5, 2) := by decide +kernel
theorem dX5_countAhead_14 : decode cX5_countAhead 14 = .ok (.iload 5, 2) := by decide +kernel
theorem dX5_countAhead_16 : decode cX5_countAhead 16 = .ok (.iload 4, 2) := by decide +kernel
theorem dX5_countAhead_18 : decode cX5_countAhead 18 = .ok (.if_icmp .ge 32, 3) := by decide +kernel
theorem dX5_countAhead_21 : decode cX5_countAhead 21 = .ok (.aload_n 3, 1) := by decide +kernel
theorem dX5_countAhead_22 : decode cX5_countAhead 22 = .ok (.iload 5, 2) := by decide +kernel
theorem dX5_countAhead_24 : decode cX5_countAhead 24 = .ok (.aaload, 1) := by decide +kernel
theorem dX5_countAhead_25 : decode cX5_countAhead 25 = .ok (.astore 6, 2) := by decide +kernel
theorem dX5_countAhead_27 : decode cX5_countAhead 27 = .ok (.aload 6, 2) := by decide +kernel
theorem dX5_countAhead_29 : decode cX5_countAhead 29 = .ok (.ifnull 15, 3) := by decide +kernel
theorem dX5_countAhead_32 : decode cX5_countAhead 32 = .ok (.aload 6, 2) := by decide +kernel
theorem dX5_countAhead_34 : decode cX5_countAhead 34 = .ok (.getfield 141, 3) := by decide +kernel
theorem dX5_countAhead_37 : decode cX5_countAhead 37 = .ok (.iload_n 1, 1) := by decide +kernel
theorem dX5_countAhead_38 : decode cX5_countAhead 38 = .ok (.if_icmp .ge 6, 3) := by decide +kernel
theorem dX5_countAhead_41 : decode cX5_countAhead 41 = .ok (.iinc 2 1, 3) := by decide +kernel
theorem dX5_countAhead_44 : decode cX5_countAhead 44 = .ok (.iinc 5 1, 3) := by decide +kernel
theorem dX5_countAhead_47 : decode cX5_countAhead 47 = .ok (.goto (-33), 3) := by decide +kernel
theorem dX5_countAhead_50 : decode cX5_countAhead 50 = .ok (.iload_n 2, 1) := by decide +kernel
theorem dX5_countAhead_51 : decode cX5_countAhead 51 = .ok (.ireturn, 1) := by decide +kernel
theorem dX5_isStuck_0 : decode cX5_isStuck 0 = .ok (.aconst_null, 1) := by decide +kernel
theorem dX5_isStuck_1 : decode cX5_isStuck 1 = .ok (.astore_n 2, 1) := by decide +kernel
theorem dX5_isStuck_2 : decode cX5_isStuck 2 = .ok (.iconst 0, 1) := by decide +kernel
theorem dX5_isStuck_3 : decode cX5_isStuck 3 = .ok (.istore_n 3, 1) := by decide +kernel
theorem dX5_isStuck_4 : decode cX5_isStuck 4 = .ok (.iconst 0, 1) := by decide +kernel
theorem dX5_isStuck_5 : decode cX5_isStuck 5 = .ok (.istore 4, 2) := by decide +kernel
theorem dX5_isStuck_7 : decode cX5_isStuck 7 = .ok (.iload 4, 2) := by decide +kernel
theorem dX5_isStuck_9 : decode cX5_isStuck 9 = .ok (.aload_n 0, 1) := by decide +kernel
theorem dX5_isStuck_10 : decode cX5_isStuck 10 = .ok (.getfield 29, 3) := by decide +kernel
theorem dX5_isStuck_13 : decode cX5_isStuck 13 = .ok (.if_icmp .ge 47, 3) := by decide +kernel
theorem dX5_isStuck_16 : decode cX5_isStuck 16 = .ok (.aload_n 0, 1) := by decide +kernel
theorem dX5_isStuck_17 : decode cX5_isStuck 17 = .ok (.iload 4, 2) := by decide +kernel
theorem dX5_isStuck_19 : decode cX5_isStuck 19 = .ok (.iload_n 1, 1) := by decide +kernel
theorem dX5_isStuck_20 : decode cX5_isStuck 20 = .ok (.invokevirtual 81, 3) := by decide +kernel
theorem dX5_isStuck_23 : decode cX5_isStuck 23 = .ok (.astore 5, 2) := by decide +kernel
theorem dX5_isStuck_25 : decode cX5_isStuck 25 = .ok (.aload 5, 2) := by decide +kernel
theorem dX5_isStuck_27 : decode cX5_isStuck 27 = .ok (.ifnull 27, 3) := by decide +kernel
theorem dX5_isStuck_30 : decode cX5_isStuck 30 = .ok (.aload_n 2, 1) := by decide +kernel
theorem dX5_isStuck_31 : decode cX5_isStuck 31 = .ok (.ifnonnull 9, 3) := by decide +kernel
theorem dX5_isStuck_34 : decode cX5_isStuck 34 = .ok (.aload 5, 2) := by decide +kernel
theorem dX5_isStuck_36 : decode cX5_isStuck 36 = .ok (.astore_n 2, 1) := by decide +kernel
theorem dX5_isStuck_37 : decode cX5_isStuck 37 = .ok (.goto 14, 3) := by decide +kernel
theorem dX5_isStuck_40 : decode cX5_isStuck 40 = .ok (.aload_n 2, 1) := by decide +kernel
theorem dX5_isStuck_41 : decode cX5_isStuck 41 = .ok (.aload 5, 2) := by decide +kernel
theorem dX5_isStuck_43 : decode cX5_isStuck 43 = .ok (.invokevirtual 183, 3) := by decide +kernel
theorem dX5_isStuck_46 : decode cX5_isStuck 46 = .ok (.ifCond .ne 5, 3) := by decide +kernel
theorem dX5_isStuck_49 : decode cX5_isStuck 49 = .ok (.iconst 0, 1) := by decide +kernel
theorem dX5_isStuck_50 : decode cX5_isStuck 50 = .ok (.ireturn, 1) := by decide +kernel
theorem dX5_isStuck_51 : decode cX5_isStuck 51 = .ok (.iinc 3 1, 3) := by decide +kernel
theorem dX5_isStuck_54 : decode cX5_isStuck 54 = .ok (.iinc 4 1, 3) := by decide +kernel
theorem dX5_isStuck_57 : decode cX5_isStuck 57 = .ok (.goto (-50), 3) := by decide +kernel
theorem dX5_isStuck_60 : decode cX5_isStuck 60 = .ok (.iload_n 3, 1) := by decide +kernel
theorem dX5_isStuck_61 : decode cX5_isStuck 61 = .ok (.iconst 2, 1) := by decide +kernel
theorem dX5_isStuck_62 : decode cX5_isStuck 62 = .ok (.if_icmp .lt 7, 3) := by decide +kernel
theorem dX5_isStuck_65 : decode cX5_isStuck 65 = .ok (.iconst 1, 1) := by decide +kernel
theorem dX5_isStuck_66 : decode cX5_isStuck 66 = .ok (.goto 4, 3) := by decide +kernel
theorem dX5_isStuck_69 : decode cX5_isStuck 69 = .ok (.iconst 0, 1) := by decide +kernel
theorem dX5_isStuck_70 : decode cX5_isStuck 70 = .ok (.ireturn, 1) := by decide +kernel
theorem dX5_isThread_0 : decode cX5_isThread 0 = .ok (.iload_n 0, 1) := by decide +kernel
theorem dX5_isThread_1 : decode cX5_isThread 1 = .ok (.ifCond .lt 13, 3) := by decide +kernel
theorem dX5_isThread_4 : decode cX5_isThread 4 = .ok (.iload_n 0, 1) := by decide +kernel
theorem dX5_isThread_5 : decode cX5_isThread 5 = .ok (.bipush 24, 2) := by decide +kernel
theorem dX5_isThread_7 : decode cX5_isThread 7 = .ok (.if_icmp .ge 7, 3) := by decide +kernel
theorem dX5_isThread_10 : decode cX5_isThread 10 = .ok (.iconst 1, 1) := by decide +kernel
theorem dX5_isThread_11 : decode cX5_isThread 11 = .ok (.goto 4, 3) := by decide +kernel
theorem dX5_isThread_14 : decode cX5_isThread 14 = .ok (.iconst 0, 1) := by decide +kernel
theorem dX5_isThread_15 : decode cX5_isThread 15 = .ok (.ireturn, 1) := by decide +kernel
theorem dX5_isLock_0 : decode cX5_isLock 0 = .ok (.iload_n 0, 1) := by decide +kernel
theorem dX5_isLock_1 : decode cX5_isLock 1 = .ok (.ifCond .lt 13, 3) := by decide +kernel
theorem dX5_isLock_4 : decode cX5_isLock 4 = .ok (.iload_n 0, 1) := by decide +kernel
theorem dX5_isLock_5 : decode cX5_isLock 5 = .ok (.bipush 16, 2) := by decide +kernel
theorem dX5_isLock_7 : decode cX5_isLock 7 = .ok (.if_icmp .ge 7, 3) := by decide +kernel
theorem dX5_isLock_10 : decode cX5_isLock 10 = .ok (.iconst 1, 1) := by decide +kernel
theorem dX5_isLock_11 : decode cX5_isLock 11 = .ok (.goto 4, 3) := by decide +kernel
theorem dX5_isLock_14 : decode cX5_isLock 14 = .ok (.iconst 0, 1) := by decide +kernel
theorem dX5_isLock_15 : decode cX5_isLock 15 = .ok (.ireturn, 1) := by decide +kernel
theorem dX5_isHeapWidth_0 : decode cX5_isHeapWidth 0 = .ok (.iload_n 0, 1) := by decide +kernel
theorem dX5_isHeapWidth_1 : decode cX5_isHeapWidth 1 = .ok (.ifCond .lt 13, 3) := by decide +kernel
theorem dX5_isHeapWidth_4 : decode cX5_isHeapWidth 4 = .ok (.iload_n 0, 1) := by decide +kernel
theorem dX5_isHeapWidth_5 : decode cX5_isHeapWidth 5 = .ok (.bipush 24, 2) := by decide +kernel
theorem dX5_isHeapWidth_7 : decode cX5_isHeapWidth 7 = .ok (.if_icmp .gt 7, 3) := by decide +kernel
theorem dX5_isHeapWidth_10 : decode cX5_isHeapWidth 10 = .ok (.iconst 1, 1) := by decide +kernel
theorem dX5_isHeapWidth_11 : decode cX5_isHeapWidth 11 = .ok (.goto 4, 3) := by decide +kernel
theorem dX5_isHeapWidth_14 : decode cX5_isHeapWidth 14 = .ok (.iconst 0, 1) := by decide +kernel
theorem dX5_isHeapWidth_15 : decode cX5_isHeapWidth 15 = .ok (.ireturn, 1) := by decide +kernel
theorem dX5_isDigit_0 : decode cX5_isDigit 0 = .ok (.iload_n 0, 1) := by decide +kernel
theorem dX5_isDigit_1 : decode cX5_isDigit 1 = .ok (.bipush 48, 2) := by decide +kernel
theorem dX5_isDigit_3 : decode cX5_isDigit 3 = .ok (.if_icmp .lt 13, 3) := by decide +kernel
theorem dX5_isDigit_6 : decode cX5_isDigit 6 = .ok (.iload_n 0, 1) := by decide +kernel
theorem dX5_isDigit_7 : decode cX5_isDigit 7 = .ok (.bipush 57, 2) := by decide +kernel
theorem dX5_isDigit_9 : decode cX5_isDigit 9 = .ok (.if_icmp .gt 7, 3) := by decide +kernel
theorem dX5_isDigit_12 : decode cX5_isDigit 12 = .ok (.iconst 1, 1) := by decide +kernel
theorem dX5_isDigit_13 : decode cX5_isDigit 13 = .ok (.goto 4, 3) := by decide +kernel
theorem dX5_isDigit_16 : decode cX5_isDigit 16 = .ok (.iconst 0, 1) := by decide +kernel
theorem dX5_isDigit_17 : decode cX5_isDigit 17 = .ok (.ireturn, 1) := by decide +kernel
theorem dX5_isLetter_0 : decode cX5_isLetter 0 = .ok (.iload_n 0, 1) := by decide +kernel
theorem dX5_isLetter_1 : decode cX5_isLetter 1 = .ok (.bipush 97, 2) := by decide +kernel
theorem dX5_isLetter_3 : decode cX5_isLetter 3 = .ok (.if_icmp .lt 13, 3) := by decide +kernel
theorem dX5_isLetter_6 : decode cX5_isLetter 6 = .ok (.iload_n 0, 1) := by decide +kernel
theorem dX5_isLetter_7 : decode cX5_isLetter 7 = .ok (.bipush 122, 2) := by decide +kernel
theorem dX5_isLetter_9 : decode cX5_isLetter 9 = .ok (.if_icmp .gt 7, 3) := by decide +kernel
theorem dX5_isLetter_12 : decode cX5_isLetter 12 = .ok (.iconst 1, 1) := by decide +kernel
theorem dX5_isLetter_13 : decode cX5_isLetter 13 = .ok (.goto 4, 3) := by decide +kernel
theorem dX5_isLetter_16 : decode cX5_isLetter 16 = .ok (.iconst 0, 1) := by decide +kernel
theorem dX5_isLetter_17 : decode cX5_isLetter 17 = .ok (.ireturn, 1) := by decide +kernel
theorem dX5_hasBit_0 : decode cX5_hasBit 0 = .ok (.iload_n 0, 1) := by decide +kernel
theorem dX5_hasBit_1 : decode cX5_hasBit 1 = .ok (.iload_n 1, 1) := by decide +kernel
theorem dX5_hasBit_2 : decode cX5_hasBit 2 = .ok (.ishr, 1) := by decide +kernel
theorem dX5_hasBit_3 : decode cX5_hasBit 3 = .ok (.iconst 1, 1) := by decide +kernel
theorem dX5_hasBit_4 : decode cX5_hasBit 4 = .ok (.iand, 1) := by decide +kernel
theorem dX5_hasBit_5 : decode cX5_hasBit 5 = .ok (.ifCond .eq 7, 3) := by decide +kernel
theorem dX5_hasBit_8 : decode cX5_hasBit 8 = .ok (.iconst 1, 1) := by decide +kernel
theorem dX5_hasBit_9 : decode cX5_hasBit 9 = .ok (.goto 4, 3) := by decide +kernel
theorem dX5_hasBit_12 : decode cX5_hasBit 12 = .ok (.iconst 0, 1) := by decide +kernel
theorem dX5_hasBit_13 : decode cX5_hasBit 13 = .ok (.ireturn, 1) := by decide +kernel
theorem dX5_lowestOf_0 : decode cX5_lowestOf 0 = .ok (.iconst 0, 1) := by decide +kernel
theorem dX5_lowestOf_1 : decode cX5_lowestOf 1 = .ok (.istore_n 1, 1) := by decide +kernel
theorem dX5_lowestOf_2 : decode cX5_lowestOf 2 = .ok (.iload_n 1, 1) := by decide +kernel
theorem dX5_lowestOf_3 : decode cX5_lowestOf 3 = .ok (.bipush 24, 2) := by decide +kernel
theorem dX5_lowestOf_5 : decode cX5_lowestOf 5 = .ok (.if_icmp .ge 19, 3) := by decide +kernel
theorem dX5_lowestOf_8 : decode cX5_lowestOf 8 = .ok (.iload_n 0, 1) := by decide +kernel
theorem dX5_lowestOf_9 : decode cX5_lowestOf 9 = .ok (.iload_n 1, 1) := by decide +kernel
theorem dX5_lowestOf_10 : decode cX5_lowestOf 10 = .ok (.invokestatic 187, 3) := by decide +kernel
theorem dX5_lowestOf_13 : decode cX5_lowestOf 13 = .ok (.ifCond .eq 5, 3) := by decide +kernel
theorem dX5_lowestOf_16 : decode cX5_lowestOf 16 = .ok (.iload_n 1, 1) := by decide +kernel
theorem dX5_lowestOf_17 : decode cX5_lowestOf 17 = .ok (.ireturn, 1) := by decide +kernel
theorem dX5_lowestOf_18 : decode cX5_lowestOf 18 = .ok (.iinc 1 1, 3) := by decide +kernel
theorem dX5_lowestOf_21 : decode cX5_lowestOf 21 = .ok (.goto (-19), 3) := by decide +kernel
theorem dX5_lowestOf_24 : decode cX5_lowestOf 24 = .ok (.iconst (-1), 1) := by decide +kernel
theorem dX5_lowestOf_25 : decode cX5_lowestOf 25 = .ok (.ireturn, 1) := by decide +kernel
theorem dX6_init_0 : decode cX6_init 0 = .ok (.aload_n 0, 1) := by decide +kernel
theorem dX6_init_1 : decode cX6_init 1 = .ok (.invokespecial 1, 3) := by decide +kernel
theorem dX6_init_4 : decode cX6_init 4 = .ok (.aload_n 0, 1) := by decide +kernel
theorem dX6_init_5 : decode cX6_init 5 = .ok (.sipush 300, 3) := by decide +kernel
theorem dX6_init_8 : decode cX6_init 8 = .ok (.newarray .byte, 2) := by decide +kernel
theorem dX6_init_10 : decode cX6_init 10 = .ok (.putfield 7, 3) := by decide +kernel
theorem dX6_init_13 : decode cX6_init 13 = .ok (.aload_n 0, 1) := by decide +kernel
theorem dX6_init_14 : decode cX6_init 14 = .ok (.sipush 10000, 3) := by decide +kernel
theorem dX6_init_17 : decode cX6_init 17 = .ok (.putfield 13, 3) := by decide +kernel
theorem dX6_init_20 : decode cX6_init 20 = .ok (.aload_n 0, 1) := by decide +kernel
theorem dX6_init_21 : decode cX6_init 21 = .ok (.bipush 10, 2) := by decide +kernel
theorem dX6_init_23 : decode cX6_init 23 = .ok (.putfield 17, 3) := by decide +kernel
theorem dX6_init_26 : decode cX6_init 26 = .ok (.aload_n 0, 1) := by decide +kernel
theorem dX6_init_27 : decode cX6_init 27 = .ok (.bipush 8, 2) := by decide +kernel
theorem dX6_init_29 : decode cX6_init 29 = .ok (.newarray .int, 2) := by decide +kernel
theorem dX6_init_31 : decode cX6_init 31 = .ok (.putfield 20, 3) := by decide +kernel
theorem dX6_init_34 : decode cX6_init 34 = .ok (.aload_n 0, 1) := by decide +kernel
theorem dX6_init_35 : decode cX6_init 35 = .ok (.bipush 8, 2) := by decide +kernel
theorem dX6_init_37 : decode cX6_init 37 = .ok (.newarray .int, 2) := by decide +kernel
theorem dX6_init_39 : decode cX6_init 39 = .ok (.putfield 24, 3) := by decide +kernel
theorem dX6_init_42 : decode cX6_init 42 = .ok (.aload_n 0, 1) := by decide +kernel
theorem dX6_init_43 : decode cX6_init 43 = .ok (.sipush 192, 3) := by decide +kernel
theorem dX6_init_46 : decode cX6_init 46 = .ok (.newarray .boolean, 2) := by decide +kernel
theorem dX6_init_48 : decode cX6_init 48 = .ok (.putfield 27, 3) := by decide +kernel
theorem dX6_init_51 : decode cX6_init 51 = .ok (.aload_n 0, 1) := by decide +kernel
theorem dX6_init_52 : decode cX6_init 52 = .ok (.sipush 192, 3) := by decide +kernel
theorem dX6_init_55 : decode cX6_init 55 = .ok (.newarray .int, 2) := by decide +kernel
theorem dX6_init_57 : decode cX6_init 57 = .ok (.putfield 31, 3) := by decide +kernel
theorem dX6_init_60 : decode cX6_init 60 = .ok (.aload_n 0, 1) := by decide +kernel
theorem dX6_init_61 : decode cX6_init 61 = .ok (.sipush 192, 3) := by decide +kernel
theorem dX6_init_64 : decode cX6_init 64 = .ok (.newarray .int, 2) := by decide +kernel
theorem dX6_init_66 : decode cX6_init 66 = .ok (.putfield 34, 3) := by decide +kernel
theorem dX6_init_69 : decode cX6_init 69 = .ok (.aload_n 0, 1) := by decide +kernel
theorem dX6_init_70 : decode cX6_init 70 = .ok (.sipush 192, 3) := by decide +kernel
theorem dX6_init_73 : decode cX6_init 73 = .ok (.newarray .int, 2) := by decide +kernel
theorem dX6_init_75 : decode cX6_init 75 = .ok (.putfield 37, 3) := by decide +kernel
theorem dX6_init_78 : decode cX6_init 78 = .ok (.aload_n 0, 1) := by decide +kernel
theorem dX6_init_79 : decode cX6_init 79 = .ok (.sipush 192, 3) := by decide +kernel
theorem dX6_init_82 : decode cX6_init 82 = .ok (.newarray .int, 2) := by decide +kernel
theorem dX6_init_84 : decode cX6_init 84 = .ok (.putfield 40, 3) := by decide +kernel
theorem dX6_init_87 : decode cX6_init 87 = .ok (.aload_n 0, 1) := by decide +kernel
theorem dX6_init_88 : decode cX6_init 88 = .ok (.sipush 192, 3) := by decide +kernel
theorem dX6_init_91 : decode cX6_init 91 = .ok (.newarray .int, 2) := by decide +kernel
theorem dX6_init_93 : decode cX6_init 93 = .ok (.putfield 43, 3) := by decide +kernel
theorem dX6_init_96 : decode cX6_init 96 = .ok (.aload_n 0, 1) := by decide +kernel
theorem dX6_init_97 : decode cX6_init 97 = .ok (.sipush 2304, 3) := by decide +kernel
theorem dX6_init_100 : decode cX6_init 100 = .ok (.newarray .byte, 2) := by decide +kernel
theorem dX6_init_102 : decode cX6_init 102 = .ok (.putfield 46, 3) := by decide +kernel
theorem dX6_init_105 : decode cX6_init 105 = .ok (.aload_n 0, 1) := by decide +kernel
theorem dX6_init_106 : decode cX6_init 106 = .ok (.bipush 12, 2) := by decide +kernel
theorem dX6_init_108 : decode cX6_init 108 = .ok (.newarray .byte, 2) := by decide +kernel
theorem dX6_init_110 : decode cX6_init 110 = .ok (.putfield 49, 3) := by decide +kernel
theorem dX6_init_113 : decode cX6_init 113 = .ok (.aload_n 0, 1) := by decide +kernel
theorem dX6_init_114 : decode cX6_init 114 = .ok (.bipush 16, 2) := by decide +kernel
theorem dX6_init_116 : decode cX6_init 116 = .ok (.newarray .int, 2) := by decide +kernel
theorem dX6_init_118 : decode cX6_init 118 = .ok (.putfield 52, 3) := by decide +kernel
theorem dX6_init_121 : decode cX6_init 121 = .ok (.aload_n 0, 1) := by decide +kernel
theorem dX6_init_122 : decode cX6_init 122 = .ok (.bipush 16, 2) := by decide +kernel
theorem dX6_init_124 : decode cX6_init 124 = .ok (.newarray .int, 2) := by decide +kernel
theorem dX6_init_126 : decode cX6_init 126 = .ok (.putfield 55, 3) := by decide +kernel
theorem dX6_init_129 : decode cX6_init 129 = .ok (.aload_n 0, 1) := by decide +kernel
theorem dX6_init_130 : decode cX6_init 130 = .ok (.bipush 16, 2) := by decide +kernel
theorem dX6_init_132 : decode cX6_init 132 = .ok (.newarray .int, 2) := by decide +kernel
theorem dX6_init_134 : decode cX6_init 134 = .ok (.putfield 58, 3) := by decide +kernel
theorem dX6_init_137 : decode cX6_init 137 = .ok (.aload_n 0, 1) := by decide +kernel
theorem dX6_init_138 : decode cX6_init 138 = .ok (.sipush 169, 3) := by decide +kernel
theorem dX6_init_141 : decode cX6_init 141 = .ok (.newarray .int, 2) := by decide +kernel
theorem dX6_init_143 : decode cX6_init 143 = .ok (.putfield 61, 3) := by decide +kernel
theorem dX6_init_146 : decode cX6_init 146 = .ok (.aload_n 0, 1) := by decide +kernel
theorem dX6_init_147 : decode cX6_init 147 = .ok (.bipush 24, 2) := by decide +kernel
theorem dX6_init_149 : decode cX6_init 149 = .ok (.newarray .int, 2) := by decide +kernel
theorem dX6_init_151 : decode cX6_init 151 = .ok (.putfield 64, 3) := by decide +kernel
theorem dX6_init_154 : decode cX6_init 154 = .ok (.return_, 1) := by decide +kernel
theorem dX6_lies_0 : decode cX6_lies 0 = .ok (.iload_n 0, 1) := by decide +kernel
theorem dX6_lies_1 : decode cX6_lies 1 = .ok (.iload_n 1, 1) := by decide +kernel
theorem dX6_lies_2 : decode cX6_lies 2 = .ok (.if_icmp .lt 12, 3) := by decide +kernel
theorem dX6_lies_5 : decode cX6_lies 5 = .ok (.iload_n 0, 1) := by decide +kernel
theorem dX6_lies_6 : decode cX6_lies 6 = .ok (.iload_n 2, 1) := by decide +kernel
theorem dX6_lies_7 : decode cX6_lies 7 = .ok (.if_icmp .gt 7, 3) := by decide +kernel
theorem dX6_lies_10 : decode cX6_lies 10 = .ok (.iconst 1, 1) := by decide +kernel
theorem dX6_lies_11 : decode cX6_lies 11 = .ok (.goto 4, 3) := by decide +kernel
theorem dX6_lies_14 : decode cX6_lies 14 = .ok (.iconst 0, 1) := by decide +kernel
theorem dX6_lies_15 : decode cX6_lies 15 = .ok (.ireturn, 1) := by decide +kernel
theorem dX6_push_0 : decode cX6_push 0 = .ok (.bipush 24, 2) := by decide +kernel
theorem dX6_push_2 : decode cX6_push 2 = .ok (.istore_n 2, 1) := by decide +kernel
theorem dX6_push_3 : decode cX6_push 3 = .ok (.iload_n 2, 1) := by decide +kernel
theorem dX6_push_4 : decode cX6_push 4 = .ok (.ifCond .lt 32, 3) := by decide +kernel
theorem dX6_push_7 : decode cX6_push 7 = .ok (.aload_n 0, 1) := by decide +kernel
theorem dX6_push_8 : decode cX6_push 8 = .ok (.getfield 7, 3) := by decide +kernel
theorem dX6_push_11 : decode cX6_push 11 = .ok (.aload_n 0, 1) := by decide +kernel
theorem dX6_push_12 : decode cX6_push 12 = .ok (.getfield 67, 3) := by decide +kernel
theorem dX6_push_15 : decode cX6_push 15 = .ok (.iload_n 1, 1) := by decide +kernel
theorem dX6_push_16 : decode cX6_push 16 = .ok (.iload_n 2, 1) := by decide +kernel
theorem dX6_push_17 : decode cX6_push 17 = .ok (.ishr, 1) := by decide +kernel
theorem dX6_push_18 : decode cX6_push 18 = .ok (.i2b, 1) := by decide +kernel
theorem dX6_push_19 : decode cX6_push 19 = .ok (.bastore, 1) := by decide +kernel
theorem dX6_push_20 : decode cX6_push 20 = .ok (.aload_n 0, 1) := by decide +kernel
theorem dX6_push_21 : decode cX6_push 21 = .ok (.dup, 1) := by decide +kernel
theorem dX6_push_22 : decode cX6_push 22 = .ok (.getfield 67, 3) := by decide +kernel
theorem dX6_push_25 : decode cX6_push 25 = .ok (.iconst 1, 1) := by decide +kernel
theorem dX6_push_26 : decode cX6_push 26 = .ok (.iadd, 1) := by decide +kernel
theorem dX6_push_27 : decode cX6_push 27 = .ok (.putfield 67, 3) := by decide +kernel
theorem dX6_push_30 : decode cX6_push 30 = .ok (.iinc 2 (-8), 3) := by decide +kernel
theorem dX6_push_33 : decode cX6_push 33 = .ok (.goto (-30), 3) := by decide +kernel
theorem dX6_push_36 : decode cX6_push 36 = .ok (.return_, 1) := by decide +kernel
theorem dX6_feed_0 : decode cX6_feed 0 = .ok (.aload_n 0, 1) := by decide +kernel
theorem dX6_feed_1 : decode cX6_feed 1 = .ok (.getfield 67, 3) := by decide +kernel
theorem dX6_feed_4 : decode cX6_feed 4 = .ok (.bipush 20, 2) := by decide +kernel
theorem dX6_feed_6 : decode cX6_feed 6 = .ok (.iadd, 1) := by decide +kernel
theorem dX6_feed_7 : decode cX6_feed 7 = .ok (.sipush 300, 3) := by decide +kernel
theorem dX6_feed_10 : decode cX6_feed 10 = .ok (.if_icmp .le 5, 3) := by decide +kernel
theorem dX6_feed_13 : decode cX6_feed 13 = .ok (.iconst (-1), 1) := by decide +kernel
theorem dX6_feed_14 : decode cX6_feed 14 = .ok (.ireturn, 1) := by decide +kernel
theorem dX6_feed_15 : decode cX6_feed 15 = .ok (.aload_n 0, 1) := by decide +kernel
theorem dX6_feed_16 : decode cX6_feed 16 = .ok (.iload_n 1, 1) := by decide +kernel
theorem dX6_feed_17 : decode cX6_feed 17 = .ok (.invokevirtual 70, 3) := by decide +kernel
theorem dX6_feed_20 : decode cX6_feed 20 = .ok (.aload_n 0, 1) := by decide +kernel
theorem dX6_feed_21 : decode cX6_feed 21 = .ok (.iload_n 2, 1) := by decide +kernel
theorem dX6_feed_22 : decode cX6_feed 22 = .ok (.invokevirtual 70, 3) := by decide +kernel
theorem dX6_feed_25 : decode cX6_feed 25 = .ok (.aload_n 0, 1) := by decide +kernel
theorem dX6_feed_26 : decode cX6_feed 26 = .ok (.iload_n 3, 1) := by decide +kernel
theorem dX6_feed_27 : decode cX6_feed 27 = .ok (.invokevirtual 70, 3) := by decide +kernel
theorem dX6_feed_30 : decode cX6_feed 30 = .ok (.aload_n 0, 1) := by decide +kernel
theorem dX6_feed_31 : decode cX6_feed 31 = .ok (.iload 4, 2) := by decide +kernel
theorem dX6_feed_33 : decode cX6_feed 33 = .ok (.invokevirtual 70, 3) := by decide +kernel
theorem dX6_feed_36 : decode cX6_feed 36 = .ok (.aload_n 0, 1) := by decide +kernel
theorem dX6_feed_37 : decode cX6_feed 37 = .ok (.iload 5, 2) := by decide +kernel
theorem dX6_feed_39 : decode cX6_feed 39 = .ok (.invokevirtual 70, 3) := by decide +kernel
theorem dX6_feed_42 : decode cX6_feed 42 = .ok (.aload_n 0, 1) := by decide +kernel
theorem dX6_feed_43 : decode cX6_feed 43 = .ok (.getfield 67, 3) := by decide +kernel
theorem dX6_feed_46 : decode cX6_feed 46 = .ok (.ireturn, 1) := by decide +kernel
theorem dX6_here_0 : decode cX6_here 0 = .ok (.aload_n 0, 1) := by decide +kernel
theorem dX6_here_1 : decode cX6_here 1 = .ok (.getfield 74, 3) := by decide +kernel
theorem dX6_here_4 : decode cX6_here 4 = .ok (.aload_n 0, 1) := by decide +kernel
theorem dX6_here_5 : decode cX6_here 5 = .ok (.getfield 77, 3) := by decide +kernel
theorem dX6_here_8 : decode cX6_here 8 = .ok (.if_icmp .ge 19, 3) := by decide +kernel
theorem dX6_here_11 : decode cX6_here 11 = .ok (.aload_n 0, 1) := by decide +kernel
theorem dX6_here_12 : decode cX6_here 12 = .ok (.getfield 7, 3) := by decide +kernel
theorem dX6_here_15 : decode cX6_here 15 = .ok (.aload_n 0, 1) := by decide +kernel
theorem dX6_here_16 : decode cX6_here 16 = .ok (.getfield 74, 3) := by decide +kernel
theorem dX6_here_19 : decode cX6_here 19 = .ok (.baload, 1) := by decide +kernel
theorem dX6_here_20 : decode cX6_here 20 = .ok (.sipush 255, 3) := by decide +kernel
theorem dX6_here_23 : decode cX6_here 23 = .ok (.iand, 1) := by decide +kernel
theorem dX6_here_24 : decode cX6_here 24 = .ok (.goto 4, 3) := by decide +kernel
theorem dX6_here_27 : decode cX6_here 27 = .ok (.iconst 0, 1) := by decide +kernel
theorem dX6_here_28 : decode cX6_here 28 = .ok (.ireturn, 1) := by decide +kernel
theorem dX6_seesDigit_0 : decode cX6_seesDigit 0 = .ok (.aload_n 0, 1) := by decide +kernel
theorem dX6_seesDigit_1 : decode cX6_seesDigit 1 = .ok (.invokevirtual 80, 3) := by decide +kernel
theorem dX6_seesDigit_4 : decode cX6_seesDigit 4 = .ok (.bipush 48, 2) := by decide +kernel
theorem dX6_seesDigit_6 : decode cX6_seesDigit 6 = .ok (.bipush 57, 2) := by decide +kernel
theorem dX6_seesDigit_8 : decode cX6_seesDigit 8 = .ok (.invokestatic 84, 3) := by decide +kernel
theorem dX6_seesDigit_11 : decode cX6_seesDigit 11 = .ok (.ireturn, 1) := by decide +kernel
theorem dX6_tears_0 : decode cX6_tears 0 = .ok (.aload_n 0, 1) := by decide +kernel
theorem dX6_tears_1 : decode cX6_tears 1 = .ok (.getfield 88, 3) := by decide +kernel
theorem dX6_tears_4 : decode cX6_tears 4 = .ok (.iconst (-1), 1) := by decide +kernel
theorem dX6_tears_5 : decode cX6_tears 5 = .ok (.if_icmp .ne 8, 3) := by decide +kernel
theorem dX6_tears_8 : decode cX6_tears 8 = .ok (.aload_n 0, 1) := by decide +kernel
theorem dX6_tears_9 : decode cX6_tears 9 = .ok (.iload_n 1, 1) := by decide +kernel
theorem dX6_tears_10 : decode cX6_tears 10 = .ok (.putfield 88, 3) := by decide +kernel
theorem dX6_tears_13 : decode cX6_tears 13 = .ok (.return_, 1) := by decide +kernel
theorem dX6_number_0 : decode cX6_number 0 = .ok (.aload_n 0, 1) := by decide +kernel
theorem dX6_number_1 : decode cX6_number 1 = .ok (.aload_n 0, 1) := by decide +kernel
theorem dX6_number_2 : decode cX6_number 2 = .ok (.getfield 74, 3) := by decide +kernel
theorem dX6_number_5 : decode cX6_number 5 = .ok (.putfield 91, 3) := by decide +kernel
theorem dX6_number_8 : decode cX6_number 8 = .ok (.iconst 0, 1) := by decide +kernel
theorem dX6_number_9 : decode cX6_number 9 = .ok (.istore_n 3, 1) := by decide +kernel
theorem dX6_number_10 : decode cX6_number 10 = .ok (.aload_n 0, 1) := by decide +kernel
theorem dX6_number_11 : decode cX6_number 11 = .ok (.invokevirtual 94, 3) := by decide +kernel
theorem dX6_number_14 : decode cX6_number 14 = .ok (.ifCond .ne 11, 3) := by decide +kernel
theorem dX6_number_17 : decode cX6_number 17 = .ok (.aload_n 0, 1) := by decide +kernel
theorem dX6_number_18 : decode cX6_number 18 = .ok (.aload_n 0, 1) := by decide +kernel
theorem dX6_number_19 : decode cX6_number 19 = .ok (.getfield 74, 3) := by decide +kernel
theorem dX6_number_22 : decode cX6_number 22 = .ok (.invokevirtual 98, 3) := by decide +kernel
theorem dX6_number_25 : decode cX6_number 25 = .ok (.aload_n 0, 1) := by decide +kernel
theorem dX6_number_26 : decode cX6_number 26 = .ok (.getfield 88, 3) := by decide +kernel
theorem dX6_number_29 : decode cX6_number 29 = .ok (.iconst (-1), 1) := by decide +kernel
theorem dX6_number_30 : decode cX6_number 30 = .ok (.if_icmp .ne 57, 3) := by decide +kernel
theorem dX6_number_33 : decode cX6_number 33 = .ok (.aload_n 0, 1) := by decide +kernel
theorem dX6_number_34 : decode cX6_number 34 = .ok (.invokevirtual 94, 3) := by decide +kernel
theorem dX6_number_37 : decode cX6_number 37 = .ok (.ifCond .eq 50, 3) := by decide +kernel
end
section
theorem dX6_number_40 : decode cX6_number 40 = .ok (.aload_n 0, 1) := by decide +kernel
theorem dX6_number_41 : decode cX6_number 41 = .ok (.getfield 74, 3) := by decide +kernel
theorem dX6_number_44 : decode cX6_number 44 = .ok (.aload_n 0, 1) := by decide +kernel
theorem dX6_number_45 : decode cX6_number 45 = .ok (.getfield 91, 3) := by decide +kernel
theorem dX6_number_48 : decode cX6_number 48 = .ok (.iload_n 1, 1) := by decide +kernel
theorem dX6_number_49 : decode cX6_number 49 = .ok (.iadd, 1) := by decide +kernel
theorem dX6_number_50 : decode cX6_number 50 = .ok (.if_icmp .ne 11, 3) := by decide +kernel
theorem dX6_number_53 : decode cX6_number 53 = .ok (.aload_n 0, 1) := by decide +kernel
theorem dX6_number_54 : decode cX6_number 54 = .ok (.aload_n 0, 1) := by decide +kernel
theorem dX6_number_55 : decode cX6_number 55 = .ok (.getfield 74, 3) := by decide +kernel
theorem dX6_number_58 : decode cX6_number 58 = .ok (.invokevirtual 98, 3) := by decide +kernel
theorem dX6_number_61 : decode cX6_number 61 = .ok (.bipush 10, 2) := by decide +kernel
theorem dX6_number_63 : decode cX6_number 63 = .ok (.iload_n 3, 1) := by decide +kernel
theorem dX6_number_64 : decode cX6_number 64 = .ok (.imul, 1) := by decide +kernel
theorem dX6_number_65 : decode cX6_number 65 = .ok (.aload_n 0, 1) := by decide +kernel
theorem dX6_number_66 : decode cX6_number 66 = .ok (.invokevirtual 80, 3) := by decide +kernel
theorem dX6_number_69 : decode cX6_number 69 = .ok (.iadd, 1) := by decide +kernel
theorem dX6_number_70 : decode cX6_number 70 = .ok (.bipush 48, 2) := by decide +kernel
theorem dX6_number_72 : decode cX6_number 72 = .ok (.isub, 1) := by decide +kernel
theorem dX6_number_73 : decode cX6_number 73 = .ok (.istore_n 3, 1) := by decide +kernel
theorem dX6_number_74 : decode cX6_number 74 = .ok (.aload_n 0, 1) := by decide +kernel
theorem dX6_number_75 : decode cX6_number 75 = .ok (.dup, 1) := by decide +kernel
theorem dX6_number_76 : decode cX6_number 76 = .ok (.getfield 74, 3) := by decide +kernel
theorem dX6_number_79 : decode cX6_number 79 = .ok (.iconst 1, 1) := by decide +kernel
theorem dX6_number_80 : decode cX6_number 80 = .ok (.iadd, 1) := by decide +kernel
theorem dX6_number_81 : decode cX6_number 81 = .ok (.putfield 74, 3) := by decide +kernel
theorem dX6_number_84 : decode cX6_number 84 = .ok (.goto (-59), 3) := by decide +kernel
theorem dX6_number_87 : decode cX6_number 87 = .ok (.aload_n 0, 1) := by decide +kernel
theorem dX6_number_88 : decode cX6_number 88 = .ok (.getfield 88, 3) := by decide +kernel
theorem dX6_number_91 : decode cX6_number 91 = .ok (.iconst (-1), 1) := by decide +kernel
theorem dX6_number_92 : decode cX6_number 92 = .ok (.if_icmp .ne 16, 3) := by decide +kernel
theorem dX6_number_95 : decode cX6_number 95 = .ok (.iload_n 3, 1) := by decide +kernel
theorem dX6_number_96 : decode cX6_number 96 = .ok (.iload_n 2, 1) := by decide +kernel
theorem dX6_number_97 : decode cX6_number 97 = .ok (.if_icmp .le 11, 3) := by decide +kernel
theorem dX6_number_100 : decode cX6_number 100 = .ok (.aload_n 0, 1) := by decide +kernel
theorem dX6_number_101 : decode cX6_number 101 = .ok (.aload_n 0, 1) := by decide +kernel
theorem dX6_number_102 : decode cX6_number 102 = .ok (.getfield 91, 3) := by decide +kernel
theorem dX6_number_105 : decode cX6_number 105 = .ok (.invokevirtual 98, 3) := by decide +kernel
theorem dX6_number_108 : decode cX6_number 108 = .ok (.iload_n 3, 1) := by decide +kernel
theorem dX6_number_109 : decode cX6_number 109 = .ok (.ireturn, 1) := by decide +kernel
theorem dX6_heldBy_0 : decode cX6_heldBy 0 = .ok (.iconst 0, 1) := by decide +kernel
theorem dX6_heldBy_1 : decode cX6_heldBy 1 = .ok (.istore_n 2, 1) := by decide +kernel
theorem dX6_heldBy_2 : decode cX6_heldBy 2 = .ok (.iconst 0, 1) := by decide +kernel
theorem dX6_heldBy_3 : decode cX6_heldBy 3 = .ok (.istore_n 3, 1) := by decide +kernel
theorem dX6_heldBy_4 : decode cX6_heldBy 4 = .ok (.iload_n 3, 1) := by decide +kernel
theorem dX6_heldBy_5 : decode cX6_heldBy 5 = .ok (.bipush 24, 2) := by decide +kernel
theorem dX6_heldBy_7 : decode cX6_heldBy 7 = .ok (.if_icmp .ge 37, 3) := by decide +kernel
theorem dX6_heldBy_10 : decode cX6_heldBy 10 = .ok (.aload_n 0, 1) := by decide +kernel
theorem dX6_heldBy_11 : decode cX6_heldBy 11 = .ok (.getfield 27, 3) := by decide +kernel
theorem dX6_heldBy_14 : decode cX6_heldBy 14 = .ok (.bipush 24, 2) := by decide +kernel
theorem dX6_heldBy_16 : decode cX6_heldBy 16 = .ok (.iload_n 1, 1) := by decide +kernel
theorem dX6_heldBy_17 : decode cX6_heldBy 17 = .ok (.imul, 1) := by decide +kernel
theorem dX6_heldBy_18 : decode cX6_heldBy 18 = .ok (.iload_n 3, 1) := by decide +kernel
theorem dX6_heldBy_19 : decode cX6_heldBy 19 = .ok (.iadd, 1) := by decide +kernel
theorem dX6_heldBy_20 : decode cX6_heldBy 20 = .ok (.baload, 1) := by decide +kernel
theorem dX6_heldBy_21 : decode cX6_heldBy 21 = .ok (.ifCond .eq 17, 3) := by decide +kernel
theorem dX6_heldBy_24 : decode cX6_heldBy 24 = .ok (.iload_n 2, 1) := by decide +kernel
theorem dX6_heldBy_25 : decode cX6_heldBy 25 = .ok (.aload_n 0, 1) := by decide +kernel
theorem dX6_heldBy_26 : decode cX6_heldBy 26 = .ok (.getfield 37, 3) := by decide +kernel
theorem dX6_heldBy_29 : decode cX6_heldBy 29 = .ok (.bipush 24, 2) := by decide +kernel
theorem dX6_heldBy_31 : decode cX6_heldBy 31 = .ok (.iload_n 1, 1) := by decide +kernel
theorem dX6_heldBy_32 : decode cX6_heldBy 32 = .ok (.imul, 1) := by decide +kernel
theorem dX6_heldBy_33 : decode cX6_heldBy 33 = .ok (.iload_n 3, 1) := by decide +kernel
theorem dX6_heldBy_34 : decode cX6_heldBy 34 = .ok (.iadd, 1) := by decide +kernel
theorem dX6_heldBy_35 : decode cX6_heldBy 35 = .ok (.iaload, 1) := by decide +kernel
theorem dX6_heldBy_36 : decode cX6_heldBy 36 = .ok (.ior, 1) := by decide +kernel
theorem dX6_heldBy_37 : decode cX6_heldBy 37 = .ok (.istore_n 2, 1) := by decide +kernel
theorem dX6_heldBy_38 : decode cX6_heldBy 38 = .ok (.iinc 3 1, 3) := by decide +kernel
theorem dX6_heldBy_41 : decode cX6_heldBy 41 = .ok (.goto (-37), 3) := by decide +kernel
theorem dX6_heldBy_44 : decode cX6_heldBy 44 = .ok (.iload_n 2, 1) := by decide +kernel
theorem dX6_heldBy_45 : decode cX6_heldBy 45 = .ok (.ireturn, 1) := by decide +kernel
theorem dX6_readLocks_0 : decode cX6_readLocks 0 = .ok (.iconst 0, 1) := by decide +kernel
theorem dX6_readLocks_1 : decode cX6_readLocks 1 = .ok (.istore_n 2, 1) := by decide +kernel
theorem dX6_readLocks_2 : decode cX6_readLocks 2 = .ok (.iconst 1, 1) := by decide +kernel
theorem dX6_readLocks_3 : decode cX6_readLocks 3 = .ok (.istore_n 3, 1) := by decide +kernel
theorem dX6_readLocks_4 : decode cX6_readLocks 4 = .ok (.iload_n 3, 1) := by decide +kernel
theorem dX6_readLocks_5 : decode cX6_readLocks 5 = .ok (.ifCond .eq 117, 3) := by decide +kernel
theorem dX6_readLocks_8 : decode cX6_readLocks 8 = .ok (.aload_n 0, 1) := by decide +kernel
theorem dX6_readLocks_9 : decode cX6_readLocks 9 = .ok (.getfield 88, 3) := by decide +kernel
theorem dX6_readLocks_12 : decode cX6_readLocks 12 = .ok (.iconst (-1), 1) := by decide +kernel
theorem dX6_readLocks_13 : decode cX6_readLocks 13 = .ok (.if_icmp .ne 109, 3) := by decide +kernel
theorem dX6_readLocks_16 : decode cX6_readLocks 16 = .ok (.aload_n 0, 1) := by decide +kernel
theorem dX6_readLocks_17 : decode cX6_readLocks 17 = .ok (.dup, 1) := by decide +kernel
theorem dX6_readLocks_18 : decode cX6_readLocks 18 = .ok (.getfield 74, 3) := by decide +kernel
theorem dX6_readLocks_21 : decode cX6_readLocks 21 = .ok (.iconst 1, 1) := by decide +kernel
theorem dX6_readLocks_22 : decode cX6_readLocks 22 = .ok (.iadd, 1) := by decide +kernel
theorem dX6_readLocks_23 : decode cX6_readLocks 23 = .ok (.putfield 74, 3) := by decide +kernel
theorem dX6_readLocks_26 : decode cX6_readLocks 26 = .ok (.aload_n 0, 1) := by decide +kernel
theorem dX6_readLocks_27 : decode cX6_readLocks 27 = .ok (.iconst 2, 1) := by decide +kernel
theorem dX6_readLocks_28 : decode cX6_readLocks 28 = .ok (.bipush 15, 2) := by decide +kernel
theorem dX6_readLocks_30 : decode cX6_readLocks 30 = .ok (.invokevirtual 101, 3) := by decide +kernel
theorem dX6_readLocks_33 : decode cX6_readLocks 33 = .ok (.istore 4, 2) := by decide +kernel
theorem dX6_readLocks_35 : decode cX6_readLocks 35 = .ok (.aload_n 0, 1) := by decide +kernel
theorem dX6_readLocks_36 : decode cX6_readLocks 36 = .ok (.getfield 88, 3) := by decide +kernel
theorem dX6_readLocks_39 : decode cX6_readLocks 39 = .ok (.iconst (-1), 1) := by decide +kernel
theorem dX6_readLocks_40 : decode cX6_readLocks 40 = .ok (.if_icmp .eq 4, 3) := by decide +kernel
theorem dX6_readLocks_43 : decode cX6_readLocks 43 = .ok (.return_, 1) := by decide +kernel
theorem dX6_readLocks_44 : decode cX6_readLocks 44 = .ok (.aload_n 0, 1) := by decide +kernel
theorem dX6_readLocks_45 : decode cX6_readLocks 45 = .ok (.iload_n 1, 1) := by decide +kernel
theorem dX6_readLocks_46 : decode cX6_readLocks 46 = .ok (.invokevirtual 105, 3) := by decide +kernel
theorem dX6_readLocks_49 : decode cX6_readLocks 49 = .ok (.aload_n 0, 1) := by decide +kernel
theorem dX6_readLocks_50 : decode cX6_readLocks 50 = .ok (.getfield 109, 3) := by decide +kernel
theorem dX6_readLocks_53 : decode cX6_readLocks 53 = .ok (.ior, 1) := by decide +kernel
theorem dX6_readLocks_54 : decode cX6_readLocks 54 = .ok (.iload 4, 2) := by decide +kernel
theorem dX6_readLocks_56 : decode cX6_readLocks 56 = .ok (.ishr, 1) := by decide +kernel
theorem dX6_readLocks_57 : decode cX6_readLocks 57 = .ok (.iconst 1, 1) := by decide +kernel
theorem dX6_readLocks_58 : decode cX6_readLocks 58 = .ok (.iand, 1) := by decide +kernel
theorem dX6_readLocks_59 : decode cX6_readLocks 59 = .ok (.iconst 1, 1) := by decide +kernel
theorem dX6_readLocks_60 : decode cX6_readLocks 60 = .ok (.if_icmp .ne 11, 3) := by decide +kernel
theorem dX6_readLocks_63 : decode cX6_readLocks 63 = .ok (.aload_n 0, 1) := by decide +kernel
theorem dX6_readLocks_64 : decode cX6_readLocks 64 = .ok (.aload_n 0, 1) := by decide +kernel
theorem dX6_readLocks_65 : decode cX6_readLocks 65 = .ok (.getfield 91, 3) := by decide +kernel
theorem dX6_readLocks_68 : decode cX6_readLocks 68 = .ok (.invokevirtual 98, 3) := by decide +kernel
theorem dX6_readLocks_71 : decode cX6_readLocks 71 = .ok (.aload_n 0, 1) := by decide +kernel
theorem dX6_readLocks_72 : decode cX6_readLocks 72 = .ok (.dup, 1) := by decide +kernel
theorem dX6_readLocks_73 : decode cX6_readLocks 73 = .ok (.getfield 109, 3) := by decide +kernel
theorem dX6_readLocks_76 : decode cX6_readLocks 76 = .ok (.iconst 1, 1) := by decide +kernel
theorem dX6_readLocks_77 : decode cX6_readLocks 77 = .ok (.iload 4, 2) := by decide +kernel
theorem dX6_readLocks_79 : decode cX6_readLocks 79 = .ok (.ishl, 1) := by decide +kernel
theorem dX6_readLocks_80 : decode cX6_readLocks 80 = .ok (.ior, 1) := by decide +kernel
theorem dX6_readLocks_81 : decode cX6_readLocks 81 = .ok (.putfield 109, 3) := by decide +kernel
theorem dX6_readLocks_84 : decode cX6_readLocks 84 = .ok (.iinc 2 1, 3) := by decide +kernel
theorem dX6_readLocks_87 : decode cX6_readLocks 87 = .ok (.aload_n 0, 1) := by decide +kernel
theorem dX6_readLocks_88 : decode cX6_readLocks 88 = .ok (.invokevirtual 80, 3) := by decide +kernel
theorem dX6_readLocks_91 : decode cX6_readLocks 91 = .ok (.bipush 44, 2) := by decide +kernel
theorem dX6_readLocks_93 : decode cX6_readLocks 93 = .ok (.if_icmp .ne 7, 3) := by decide +kernel
theorem dX6_readLocks_96 : decode cX6_readLocks 96 = .ok (.iconst 1, 1) := by decide +kernel
theorem dX6_readLocks_97 : decode cX6_readLocks 97 = .ok (.goto 4, 3) := by decide +kernel
theorem dX6_readLocks_100 : decode cX6_readLocks 100 = .ok (.iconst 0, 1) := by decide +kernel
theorem dX6_readLocks_101 : decode cX6_readLocks 101 = .ok (.istore_n 3, 1) := by decide +kernel
theorem dX6_readLocks_102 : decode cX6_readLocks 102 = .ok (.iload_n 3, 1) := by decide +kernel
theorem dX6_readLocks_103 : decode cX6_readLocks 103 = .ok (.ifCond .eq 16, 3) := by decide +kernel
theorem dX6_readLocks_106 : decode cX6_readLocks 106 = .ok (.iload_n 2, 1) := by decide +kernel
theorem dX6_readLocks_107 : decode cX6_readLocks 107 = .ok (.iconst 4, 1) := by decide +kernel
theorem dX6_readLocks_108 : decode cX6_readLocks 108 = .ok (.if_icmp .ne 11, 3) := by decide +kernel
theorem dX6_readLocks_111 : decode cX6_readLocks 111 = .ok (.aload_n 0, 1) := by decide +kernel
theorem dX6_readLocks_112 : decode cX6_readLocks 112 = .ok (.aload_n 0, 1) := by decide +kernel
theorem dX6_readLocks_113 : decode cX6_readLocks 113 = .ok (.getfield 74, 3) := by decide +kernel
theorem dX6_readLocks_116 : decode cX6_readLocks 116 = .ok (.invokevirtual 98, 3) := by decide +kernel
theorem dX6_readLocks_119 : decode cX6_readLocks 119 = .ok (.goto (-115), 3) := by decide +kernel
theorem dX6_readLocks_122 : decode cX6_readLocks 122 = .ok (.return_, 1) := by decide +kernel
theorem dX6_readCalls_0 : decode cX6_readCalls 0 = .ok (.aload_n 0, 1) := by decide +kernel
theorem dX6_readCalls_1 : decode cX6_readCalls 1 = .ok (.dup, 1) := by decide +kernel
theorem dX6_readCalls_2 : decode cX6_readCalls 2 = .ok (.getfield 74, 3) := by decide +kernel
theorem dX6_readCalls_5 : decode cX6_readCalls 5 = .ok (.iconst 1, 1) := by decide +kernel
theorem dX6_readCalls_6 : decode cX6_readCalls 6 = .ok (.iadd, 1) := by decide +kernel
theorem dX6_readCalls_7 : decode cX6_readCalls 7 = .ok (.putfield 74, 3) := by decide +kernel
theorem dX6_readCalls_10 : decode cX6_readCalls 10 = .ok (.aload_n 0, 1) := by decide +kernel
theorem dX6_readCalls_11 : decode cX6_readCalls 11 = .ok (.invokevirtual 80, 3) := by decide +kernel
theorem dX6_readCalls_14 : decode cX6_readCalls 14 = .ok (.bipush 97, 2) := by decide +kernel
theorem dX6_readCalls_16 : decode cX6_readCalls 16 = .ok (.bipush 122, 2) := by decide +kernel
theorem dX6_readCalls_18 : decode cX6_readCalls 18 = .ok (.invokestatic 84, 3) := by decide +kernel
theorem dX6_readCalls_21 : decode cX6_readCalls 21 = .ok (.ifCond .ne 11, 3) := by decide +kernel
theorem dX6_readCalls_24 : decode cX6_readCalls 24 = .ok (.aload_n 0, 1) := by decide +kernel
theorem dX6_readCalls_25 : decode cX6_readCalls 25 = .ok (.aload_n 0, 1) := by decide +kernel
theorem dX6_readCalls_26 : decode cX6_readCalls 26 = .ok (.getfield 74, 3) := by decide +kernel
theorem dX6_readCalls_29 : decode cX6_readCalls 29 = .ok (.invokevirtual 98, 3) := by decide +kernel
theorem dX6_readCalls_32 : decode cX6_readCalls 32 = .ok (.aload_n 0, 1) := by decide +kernel
theorem dX6_readCalls_33 : decode cX6_readCalls 33 = .ok (.getfield 88, 3) := by decide +kernel
theorem dX6_readCalls_36 : decode cX6_readCalls 36 = .ok (.iconst (-1), 1) := by decide +kernel
theorem dX6_readCalls_37 : decode cX6_readCalls 37 = .ok (.if_icmp .ne 72, 3) := by decide +kernel
theorem dX6_readCalls_40 : decode cX6_readCalls 40 = .ok (.aload_n 0, 1) := by decide +kernel
theorem dX6_readCalls_41 : decode cX6_readCalls 41 = .ok (.invokevirtual 80, 3) := by decide +kernel
theorem dX6_readCalls_44 : decode cX6_readCalls 44 = .ok (.bipush 97, 2) := by decide +kernel
theorem dX6_readCalls_46 : decode cX6_readCalls 46 = .ok (.bipush 122, 2) := by decide +kernel
theorem dX6_readCalls_48 : decode cX6_readCalls 48 = .ok (.invokestatic 84, 3) := by decide +kernel
theorem dX6_readCalls_51 : decode cX6_readCalls 51 = .ok (.ifCond .eq 58, 3) := by decide +kernel
theorem dX6_readCalls_54 : decode cX6_readCalls 54 = .ok (.aload_n 0, 1) := by decide +kernel
theorem dX6_readCalls_55 : decode cX6_readCalls 55 = .ok (.getfield 112, 3) := by decide +kernel
theorem dX6_readCalls_58 : decode cX6_readCalls 58 = .ok (.bipush 12, 2) := by decide +kernel
theorem dX6_readCalls_60 : decode cX6_readCalls 60 = .ok (.if_icmp .ne 12, 3) := by decide +kernel
theorem dX6_readCalls_63 : decode cX6_readCalls 63 = .ok (.aload_n 0, 1) := by decide +kernel
theorem dX6_readCalls_64 : decode cX6_readCalls 64 = .ok (.aload_n 0, 1) := by decide +kernel
theorem dX6_readCalls_65 : decode cX6_readCalls 65 = .ok (.getfield 74, 3) := by decide +kernel
theorem dX6_readCalls_68 : decode cX6_readCalls 68 = .ok (.invokevirtual 98, 3) := by decide +kernel
theorem dX6_readCalls_71 : decode cX6_readCalls 71 = .ok (.return_, 1) := by decide +kernel
theorem dX6_readCalls_72 : decode cX6_readCalls 72 = .ok (.aload_n 0, 1) := by decide +kernel
theorem dX6_readCalls_73 : decode cX6_readCalls 73 = .ok (.getfield 49, 3) := by decide +kernel
theorem dX6_readCalls_76 : decode cX6_readCalls 76 = .ok (.aload_n 0, 1) := by decide +kernel
theorem dX6_readCalls_77 : decode cX6_readCalls 77 = .ok (.getfield 112, 3) := by decide +kernel
theorem dX6_readCalls_80 : decode cX6_readCalls 80 = .ok (.aload_n 0, 1) := by decide +kernel
theorem dX6_readCalls_81 : decode cX6_readCalls 81 = .ok (.invokevirtual 80, 3) := by decide +kernel
theorem dX6_readCalls_84 : decode cX6_readCalls 84 = .ok (.i2b, 1) := by decide +kernel
theorem dX6_readCalls_85 : decode cX6_readCalls 85 = .ok (.bastore, 1) := by decide +kernel
theorem dX6_readCalls_86 : decode cX6_readCalls 86 = .ok (.aload_n 0, 1) := by decide +kernel
theorem dX6_readCalls_87 : decode cX6_readCalls 87 = .ok (.dup, 1) := by decide +kernel
theorem dX6_readCalls_88 : decode cX6_readCalls 88 = .ok (.getfield 112, 3) := by decide +kernel
theorem dX6_readCalls_91 : decode cX6_readCalls 91 = .ok (.iconst 1, 1) := by decide +kernel
theorem dX6_readCalls_92 : decode cX6_readCalls 92 = .ok (.iadd, 1) := by decide +kernel
theorem dX6_readCalls_93 : decode cX6_readCalls 93 = .ok (.putfield 112, 3) := by decide +kernel
theorem dX6_readCalls_96 : decode cX6_readCalls 96 = .ok (.aload_n 0, 1) := by decide +kernel
theorem dX6_readCalls_97 : decode cX6_readCalls 97 = .ok (.dup, 1) := by decide +kernel
theorem dX6_readCalls_98 : decode cX6_readCalls 98 = .ok (.getfield 74, 3) := by decide +kernel
theorem dX6_readCalls_101 : decode cX6_readCalls 101 = .ok (.iconst 1, 1) := by decide +kernel
theorem dX6_readCalls_102 : decode cX6_readCalls 102 = .ok (.iadd, 1) := by decide +kernel
theorem dX6_readCalls_103 : decode cX6_readCalls 103 = .ok (.putfield 74, 3) := by decide +kernel
theorem dX6_readCalls_106 : decode cX6_readCalls 106 = .ok (.goto (-74), 3) := by decide +kernel
theorem dX6_readCalls_109 : decode cX6_readCalls 109 = .ok (.return_, 1) := by decide +kernel
theorem dX6_stateOf_0 : decode cX6_stateOf 0 = .ok (.iload_n 0, 1) := by decide +kernel
theorem dX6_stateOf_1 : decode cX6_stateOf 1 = .ok (.bipush 82, 2) := by decide +kernel
theorem dX6_stateOf_3 : decode cX6_stateOf 3 = .ok (.if_icmp .ne 7, 3) := by decide +kernel
theorem dX6_stateOf_6 : decode cX6_stateOf 6 = .ok (.iconst 0, 1) := by decide +kernel
theorem dX6_stateOf_7 : decode cX6_stateOf 7 = .ok (.goto 34, 3) := by decide +kernel
theorem dX6_stateOf_10 : decode cX6_stateOf 10 = .ok (.iload_n 0, 1) := by decide +kernel
theorem dX6_stateOf_11 : decode cX6_stateOf 11 = .ok (.bipush 87, 2) := by decide +kernel
theorem dX6_stateOf_13 : decode cX6_stateOf 13 = .ok (.if_icmp .ne 7, 3) := by decide +kernel
theorem dX6_stateOf_16 : decode cX6_stateOf 16 = .ok (.iconst 1, 1) := by decide +kernel
theorem dX6_stateOf_17 : decode cX6_stateOf 17 = .ok (.goto 24, 3) := by decide +kernel
theorem dX6_stateOf_20 : decode cX6_stateOf 20 = .ok (.iload_n 0, 1) := by decide +kernel
theorem dX6_stateOf_21 : decode cX6_stateOf 21 = .ok (.bipush 83, 2) := by decide +kernel
theorem dX6_stateOf_23 : decode cX6_stateOf 23 = .ok (.if_icmp .ne 7, 3) := by decide +kernel
theorem dX6_stateOf_26 : decode cX6_stateOf 26 = .ok (.iconst 2, 1) := by decide +kernel
theorem dX6_stateOf_27 : decode cX6_stateOf 27 = .ok (.goto 14, 3) := by decide +kernel
theorem dX6_stateOf_30 : decode cX6_stateOf 30 = .ok (.iload_n 0, 1) := by decide +kernel
theorem dX6_stateOf_31 : decode cX6_stateOf 31 = .ok (.bipush 70, 2) := by decide +kernel
theorem dX6_stateOf_33 : decode cX6_stateOf 33 = .ok (.if_icmp .ne 7, 3) := by decide +kernel
theorem dX6_stateOf_36 : decode cX6_stateOf 36 = .ok (.iconst 3, 1) := by decide +kernel
theorem dX6_stateOf_37 : decode cX6_stateOf 37 = .ok (.goto 4, 3) := by decide +kernel
theorem dX6_stateOf_40 : decode cX6_stateOf 40 = .ok (.iconst (-1), 1) := by decide +kernel
theorem dX6_stateOf_41 : decode cX6_stateOf 41 = .ok (.ireturn, 1) := by decide +kernel
theorem dX6_readRow_0 : decode cX6_readRow 0 = .ok (.aload_n 0, 1) := by decide +kernel
theorem dX6_readRow_1 : decode cX6_readRow 1 = .ok (.dup, 1) := by decide +kernel
theorem dX6_readRow_2 : decode cX6_readRow 2 = .ok (.getfield 74, 3) := by decide +kernel
theorem dX6_readRow_5 : decode cX6_readRow 5 = .ok (.iconst 1, 1) := by decide +kernel
theorem dX6_readRow_6 : decode cX6_readRow 6 = .ok (.iadd, 1) := by decide +kernel
theorem dX6_readRow_7 : decode cX6_readRow 7 = .ok (.putfield 74, 3) := by decide +kernel
theorem dX6_readRow_10 : decode cX6_readRow 10 = .ok (.aload_n 0, 1) := by decide +kernel
theorem dX6_readRow_11 : decode cX6_readRow 11 = .ok (.iconst 0, 1) := by decide +kernel
theorem dX6_readRow_12 : decode cX6_readRow 12 = .ok (.putfield 109, 3) := by decide +kernel
theorem dX6_readRow_15 : decode cX6_readRow 15 = .ok (.aload_n 0, 1) := by decide +kernel
theorem dX6_readRow_16 : decode cX6_readRow 16 = .ok (.iconst (-1), 1) := by decide +kernel
theorem dX6_readRow_17 : decode cX6_readRow 17 = .ok (.putfield 115, 3) := by decide +kernel
theorem dX6_readRow_20 : decode cX6_readRow 20 = .ok (.aload_n 0, 1) := by decide +kernel
theorem dX6_readRow_21 : decode cX6_readRow 21 = .ok (.iconst 0, 1) := by decide +kernel
theorem dX6_readRow_22 : decode cX6_readRow 22 = .ok (.putfield 112, 3) := by decide +kernel
theorem dX6_readRow_25 : decode cX6_readRow 25 = .ok (.aload_n 0, 1) := by decide +kernel
theorem dX6_readRow_26 : decode cX6_readRow 26 = .ok (.aload_n 0, 1) := by decide +kernel
theorem dX6_readRow_27 : decode cX6_readRow 27 = .ok (.iconst 2, 1) := by decide +kernel
theorem dX6_readRow_28 : decode cX6_readRow 28 = .ok (.bipush 23, 2) := by decide +kernel
theorem dX6_readRow_30 : decode cX6_readRow 30 = .ok (.invokevirtual 101, 3) := by decide +kernel
theorem dX6_readRow_33 : decode cX6_readRow 33 = .ok (.putfield 118, 3) := by decide +kernel
theorem dX6_readRow_36 : decode cX6_readRow 36 = .ok (.aload_n 0, 1) := by decide +kernel
theorem dX6_readRow_37 : decode cX6_readRow 37 = .ok (.getfield 88, 3) := by decide +kernel
theorem dX6_readRow_40 : decode cX6_readRow 40 = .ok (.iconst (-1), 1) := by decide +kernel
theorem dX6_readRow_41 : decode cX6_readRow 41 = .ok (.if_icmp .ne 28, 3) := by decide +kernel
theorem dX6_readRow_44 : decode cX6_readRow 44 = .ok (.aload_n 0, 1) := by decide +kernel
theorem dX6_readRow_45 : decode cX6_readRow 45 = .ok (.getfield 27, 3) := by decide +kernel
theorem dX6_readRow_48 : decode cX6_readRow 48 = .ok (.bipush 24, 2) := by decide +kernel
theorem dX6_readRow_50 : decode cX6_readRow 50 = .ok (.iload_n 1, 1) := by decide +kernel
theorem dX6_readRow_51 : decode cX6_readRow 51 = .ok (.imul, 1) := by decide +kernel
theorem dX6_readRow_52 : decode cX6_readRow 52 = .ok (.aload_n 0, 1) := by decide +kernel
theorem dX6_readRow_53 : decode cX6_readRow 53 = .ok (.getfield 118, 3) := by decide +kernel
theorem dX6_readRow_56 : decode cX6_readRow 56 = .ok (.iadd, 1) := by decide +kernel
theorem dX6_readRow_57 : decode cX6_readRow 57 = .ok (.baload, 1) := by decide +kernel
theorem dX6_readRow_58 : decode cX6_readRow 58 = .ok (.ifCond .eq 11, 3) := by decide +kernel
theorem dX6_readRow_61 : decode cX6_readRow 61 = .ok (.aload_n 0, 1) := by decide +kernel
theorem dX6_readRow_62 : decode cX6_readRow 62 = .ok (.aload_n 0, 1) := by decide +kernel
theorem dX6_readRow_63 : decode cX6_readRow 63 = .ok (.getfield 91, 3) := by decide +kernel
theorem dX6_readRow_66 : decode cX6_readRow 66 = .ok (.invokevirtual 98, 3) := by decide +kernel
theorem dX6_readRow_69 : decode cX6_readRow 69 = .ok (.aload_n 0, 1) := by decide +kernel
theorem dX6_readRow_70 : decode cX6_readRow 70 = .ok (.aload_n 0, 1) := by decide +kernel
theorem dX6_readRow_71 : decode cX6_readRow 71 = .ok (.invokevirtual 80, 3) := by decide +kernel
theorem dX6_readRow_74 : decode cX6_readRow 74 = .ok (.invokestatic 121, 3) := by decide +kernel
theorem dX6_readRow_77 : decode cX6_readRow 77 = .ok (.putfield 124, 3) := by decide +kernel
theorem dX6_readRow_80 : decode cX6_readRow 80 = .ok (.aload_n 0, 1) := by decide +kernel
theorem dX6_readRow_81 : decode cX6_readRow 81 = .ok (.getfield 124, 3) := by decide +kernel
theorem dX6_readRow_84 : decode cX6_readRow 84 = .ok (.iconst (-1), 1) := by decide +kernel
theorem dX6_readRow_85 : decode cX6_readRow 85 = .ok (.if_icmp .ne 11, 3) := by decide +kernel
theorem dX6_readRow_88 : decode cX6_readRow 88 = .ok (.aload_n 0, 1) := by decide +kernel
theorem dX6_readRow_89 : decode cX6_readRow 89 = .ok (.aload_n 0, 1) := by decide +kernel
theorem dX6_readRow_90 : decode cX6_readRow 90 = .ok (.getfield 74, 3) := by decide +kernel
theorem dX6_readRow_93 : decode cX6_readRow 93 = .ok (.invokevirtual 98, 3) := by decide +kernel
theorem dX6_readRow_96 : decode cX6_readRow 96 = .ok (.aload_n 0, 1) := by decide +kernel
theorem dX6_readRow_97 : decode cX6_readRow 97 = .ok (.dup, 1) := by decide +kernel
theorem dX6_readRow_98 : decode cX6_readRow 98 = .ok (.getfield 74, 3) := by decide +kernel
theorem dX6_readRow_101 : decode cX6_readRow 101 = .ok (.iconst 1, 1) := by decide +kernel
theorem dX6_readRow_102 : decode cX6_readRow 102 = .ok (.iadd, 1) := by decide +kernel
theorem dX6_readRow_103 : decode cX6_readRow 103 = .ok (.putfield 74, 3) := by decide +kernel
theorem dX6_readRow_106 : decode cX6_readRow 106 = .ok (.aload_n 0, 1) := by decide +kernel
theorem dX6_readRow_107 : decode cX6_readRow 107 = .ok (.getfield 88, 3) := by decide +kernel
theorem dX6_readRow_110 : decode cX6_readRow 110 = .ok (.iconst (-1), 1) := by decide +kernel
theorem dX6_readRow_111 : decode cX6_readRow 111 = .ok (.if_icmp .ne 15, 3) := by decide +kernel
theorem dX6_readRow_114 : decode cX6_readRow 114 = .ok (.aload_n 0, 1) := by decide +kernel
theorem dX6_readRow_115 : decode cX6_readRow 115 = .ok (.aload_n 0, 1) := by decide +kernel
theorem dX6_readRow_116 : decode cX6_readRow 116 = .ok (.iconst 4, 1) := by decide +kernel
theorem dX6_readRow_117 : decode cX6_readRow 117 = .ok (.sipush 9999, 3) := by decide +kernel
theorem dX6_readRow_120 : decode cX6_readRow 120 = .ok (.invokevirtual 101, 3) := by decide +kernel
theorem dX6_readRow_123 : decode cX6_readRow 123 = .ok (.putfield 127, 3) := by decide +kernel
theorem dX6_readRow_126 : decode cX6_readRow 126 = .ok (.aload_n 0, 1) := by decide +kernel
theorem dX6_readRow_127 : decode cX6_readRow 127 = .ok (.getfield 88, 3) := by decide +kernel
theorem dX6_readRow_130 : decode cX6_readRow 130 = .ok (.iconst (-1), 1) := by decide +kernel
theorem dX6_readRow_131 : decode cX6_readRow 131 = .ok (.if_icmp .ne 17, 3) := by decide +kernel
theorem dX6_readRow_134 : decode cX6_readRow 134 = .ok (.aload_n 0, 1) := by decide +kernel
theorem dX6_readRow_135 : decode cX6_readRow 135 = .ok (.invokevirtual 80, 3) := by decide +kernel
theorem dX6_readRow_138 : decode cX6_readRow 138 = .ok (.bipush 104, 2) := by decide +kernel
theorem dX6_readRow_140 : decode cX6_readRow 140 = .ok (.if_icmp .ne 8, 3) := by decide +kernel
theorem dX6_readRow_143 : decode cX6_readRow 143 = .ok (.aload_n 0, 1) := by decide +kernel
theorem dX6_readRow_144 : decode cX6_readRow 144 = .ok (.iload_n 1, 1) := by decide +kernel
theorem dX6_readRow_145 : decode cX6_readRow 145 = .ok (.invokevirtual 130, 3) := by decide +kernel
theorem dX6_readRow_148 : decode cX6_readRow 148 = .ok (.aload_n 0, 1) := by decide +kernel
theorem dX6_readRow_149 : decode cX6_readRow 149 = .ok (.getfield 88, 3) := by decide +kernel
theorem dX6_readRow_152 : decode cX6_readRow 152 = .ok (.iconst (-1), 1) := by decide +kernel
theorem dX6_readRow_153 : decode cX6_readRow 153 = .ok (.if_icmp .eq 4, 3) := by decide +kernel
theorem dX6_readRow_156 : decode cX6_readRow 156 = .ok (.return_, 1) := by decide +kernel
theorem dX6_readRow_157 : decode cX6_readRow 157 = .ok (.aload_n 0, 1) := by decide +kernel
theorem dX6_readRow_158 : decode cX6_readRow 158 = .ok (.getfield 124, 3) := by decide +kernel
theorem dX6_readRow_161 : decode cX6_readRow 161 = .ok (.iconst 1, 1) := by decide +kernel
theorem dX6_readRow_162 : decode cX6_readRow 162 = .ok (.if_icmp .eq 11, 3) := by decide +kernel
theorem dX6_readRow_165 : decode cX6_readRow 165 = .ok (.aload_n 0, 1) := by decide +kernel
theorem dX6_readRow_166 : decode cX6_readRow 166 = .ok (.getfield 124, 3) := by decide +kernel
theorem dX6_readRow_169 : decode cX6_readRow 169 = .ok (.iconst 2, 1) := by decide +kernel
theorem dX6_readRow_170 : decode cX6_readRow 170 = .ok (.if_icmp .ne 7, 3) := by decide +kernel
theorem dX6_readRow_173 : decode cX6_readRow 173 = .ok (.iconst 1, 1) := by decide +kernel
theorem dX6_readRow_174 : decode cX6_readRow 174 = .ok (.goto 4, 3) := by decide +kernel
theorem dX6_readRow_177 : decode cX6_readRow 177 = .ok (.iconst 0, 1) := by decide +kernel
theorem dX6_readRow_178 : decode cX6_readRow 178 = .ok (.istore_n 2, 1) := by decide +kernel
theorem dX6_readRow_179 : decode cX6_readRow 179 = .ok (.iload_n 2, 1) := by decide +kernel
theorem dX6_readRow_180 : decode cX6_readRow 180 = .ok (.aload_n 0, 1) := by decide +kernel
theorem dX6_readRow_181 : decode cX6_readRow 181 = .ok (.invokevirtual 80, 3) := by decide +kernel
theorem dX6_readRow_184 : decode cX6_readRow 184 = .ok (.bipush 119, 2) := by decide +kernel
theorem dX6_readRow_186 : decode cX6_readRow 186 = .ok (.if_icmp .ne 7, 3) := by decide +kernel
theorem dX6_readRow_189 : decode cX6_readRow 189 = .ok (.iconst 1, 1) := by decide +kernel
theorem dX6_readRow_190 : decode cX6_readRow 190 = .ok (.goto 4, 3) := by decide +kernel
theorem dX6_readRow_193 : decode cX6_readRow 193 = .ok (.iconst 0, 1) := by decide +kernel
theorem dX6_readRow_194 : decode cX6_readRow 194 = .ok (.if_icmp .eq 24, 3) := by decide +kernel
theorem dX6_readRow_197 : decode cX6_readRow 197 = .ok (.iload_n 2, 1) := by decide +kernel
theorem dX6_readRow_198 : decode cX6_readRow 198 = .ok (.ifCond .ne 12, 3) := by decide +kernel
theorem dX6_readRow_201 : decode cX6_readRow 201 = .ok (.aload_n 0, 1) := by decide +kernel
theorem dX6_readRow_202 : decode cX6_readRow 202 = .ok (.invokevirtual 80, 3) := by decide +kernel
theorem dX6_readRow_205 : decode cX6_readRow 205 = .ok (.bipush 119, 2) := by decide +kernel
theorem dX6_readRow_207 : decode cX6_readRow 207 = .ok (.if_icmp .ne 11, 3) := by decide +kernel
theorem dX6_readRow_210 : decode cX6_readRow 210 = .ok (.aload_n 0, 1) := by decide +kernel
theorem dX6_readRow_211 : decode cX6_readRow 211 = .ok (.aload_n 0, 1) := by decide +kernel
theorem dX6_readRow_212 : decode cX6_readRow 212 = .ok (.getfield 74, 3) := by decide +kernel
theorem dX6_readRow_215 : decode cX6_readRow 215 = .ok (.invokevirtual 98, 3) := by decide +kernel
theorem dX6_readRow_218 : decode cX6_readRow 218 = .ok (.aload_n 0, 1) := by decide +kernel
theorem dX6_readRow_219 : decode cX6_readRow 219 = .ok (.getfield 88, 3) := by decide +kernel
theorem dX6_readRow_222 : decode cX6_readRow 222 = .ok (.iconst (-1), 1) := by decide +kernel
theorem dX6_readRow_223 : decode cX6_readRow 223 = .ok (.if_icmp .ne 28, 3) := by decide +kernel
theorem dX6_readRow_226 : decode cX6_readRow 226 = .ok (.iload_n 2, 1) := by decide +kernel
theorem dX6_readRow_227 : decode cX6_readRow 227 = .ok (.ifCond .eq 24, 3) := by decide +kernel
theorem dX6_readRow_230 : decode cX6_readRow 230 = .ok (.aload_n 0, 1) := by decide +kernel
theorem dX6_readRow_231 : decode cX6_readRow 231 = .ok (.dup, 1) := by decide +kernel
theorem dX6_readRow_232 : decode cX6_readRow 232 = .ok (.getfield 74, 3) := by decide +kernel
theorem dX6_readRow_235 : decode cX6_readRow 235 = .ok (.iconst 1, 1) := by decide +kernel
theorem dX6_readRow_236 : decode cX6_readRow 236 = .ok (.iadd, 1) := by decide +kernel
theorem dX6_readRow_237 : decode cX6_readRow 237 = .ok (.putfield 74, 3) := by decide +kernel
theorem dX6_readRow_240 : decode cX6_readRow 240 = .ok (.aload_n 0, 1) := by decide +kernel
theorem dX6_readRow_241 : decode cX6_readRow 241 = .ok (.aload_n 0, 1) := by decide +kernel
theorem dX6_readRow_242 : decode cX6_readRow 242 = .ok (.iconst 2, 1) := by decide +kernel
theorem dX6_readRow_243 : decode cX6_readRow 243 = .ok (.bipush 15, 2) := by decide +kernel
theorem dX6_readRow_245 : decode cX6_readRow 245 = .ok (.invokevirtual 101, 3) := by decide +kernel
theorem dX6_readRow_248 : decode cX6_readRow 248 = .ok (.putfield 115, 3) := by decide +kernel
theorem dX6_readRow_251 : decode cX6_readRow 251 = .ok (.aload_n 0, 1) := by decide +kernel
theorem dX6_readRow_252 : decode cX6_readRow 252 = .ok (.getfield 88, 3) := by decide +kernel
theorem dX6_readRow_255 : decode cX6_readRow 255 = .ok (.iconst (-1), 1) := by decide +kernel
theorem dX6_readRow_256 : decode cX6_readRow 256 = .ok (.if_icmp .ne 16, 3) := by decide +kernel
theorem dX6_readRow_259 : decode cX6_readRow 259 = .ok (.aload_n 0, 1) := by decide +kernel
theorem dX6_readRow_260 : decode cX6_readRow 260 = .ok (.invokevirtual 80, 3) := by decide +kernel
theorem dX6_readRow_263 : decode cX6_readRow 263 = .ok (.bipush 99, 2) := by decide +kernel
theorem dX6_readRow_265 : decode cX6_readRow 265 = .ok (.if_icmp .ne 7, 3) := by decide +kernel
theorem dX6_readRow_268 : decode cX6_readRow 268 = .ok (.aload_n 0, 1) := by decide +kernel
theorem dX6_readRow_269 : decode cX6_readRow 269 = .ok (.invokevirtual 133, 3) := by decide +kernel
theorem dX6_readRow_272 : decode cX6_readRow 272 = .ok (.aload_n 0, 1) := by decide +kernel
theorem dX6_readRow_273 : decode cX6_readRow 273 = .ok (.getfield 88, 3) := by decide +kernel
theorem dX6_readRow_276 : decode cX6_readRow 276 = .ok (.iconst (-1), 1) := by decide +kernel
theorem dX6_readRow_277 : decode cX6_readRow 277 = .ok (.if_icmp .ne 31, 3) := by decide +kernel
theorem dX6_readRow_280 : decode cX6_readRow 280 = .ok (.aload_n 0, 1) := by decide +kernel
theorem dX6_readRow_281 : decode cX6_readRow 281 = .ok (.getfield 74, 3) := by decide +kernel
theorem dX6_readRow_284 : decode cX6_readRow 284 = .ok (.aload_n 0, 1) := by decide +kernel
theorem dX6_readRow_285 : decode cX6_readRow 285 = .ok (.getfield 77, 3) := by decide +kernel
theorem dX6_readRow_288 : decode cX6_readRow 288 = .ok (.if_icmp .ge 20, 3) := by decide +kernel
theorem dX6_readRow_291 : decode cX6_readRow 291 = .ok (.aload_n 0, 1) := by decide +kernel
theorem dX6_readRow_292 : decode cX6_readRow 292 = .ok (.invokevirtual 80, 3) := by decide +kernel
theorem dX6_readRow_295 : decode cX6_readRow 295 = .ok (.bipush 59, 2) := by decide +kernel
theorem dX6_readRow_297 : decode cX6_readRow 297 = .ok (.if_icmp .eq 11, 3) := by decide +kernel
theorem dX6_readRow_300 : decode cX6_readRow 300 = .ok (.aload_n 0, 1) := by decide +kernel
theorem dX6_readRow_301 : decode cX6_readRow 301 = .ok (.aload_n 0, 1) := by decide +kernel
theorem dX6_readRow_302 : decode cX6_readRow 302 = .ok (.getfield 74, 3) := by decide +kernel
theorem dX6_readRow_305 : decode cX6_readRow 305 = .ok (.invokevirtual 98, 3) := by decide +kernel
theorem dX6_readRow_308 : decode cX6_readRow 308 = .ok (.return_, 1) := by decide +kernel
theorem dX6_stands_0 : decode cX6_stands 0 = .ok (.bipush 24, 2) := by decide +kernel
theorem dX6_stands_2 : decode cX6_stands 2 = .ok (.iload_n 1, 1) := by decide +kernel
theorem dX6_stands_3 : decode cX6_stands 3 = .ok (.imul, 1) := by decide +kernel
theorem dX6_stands_4 : decode cX6_stands 4 = .ok (.aload_n 0, 1) := by decide +kernel
theorem dX6_stands_5 : decode cX6_stands 5 = .ok (.getfield 118, 3) := by decide +kernel
theorem dX6_stands_8 : decode cX6_stands 8 = .ok (.iadd, 1) := by decide +kernel
theorem dX6_stands_9 : decode cX6_stands 9 = .ok (.istore_n 2, 1) := by decide +kernel
theorem dX6_stands_10 : decode cX6_stands 10 = .ok (.aload_n 0, 1) := by decide +kernel
theorem dX6_stands_11 : decode cX6_stands 11 = .ok (.getfield 27, 3) := by decide +kernel
theorem dX6_stands_14 : decode cX6_stands 14 = .ok (.iload_n 2, 1) := by decide +kernel
theorem dX6_stands_15 : decode cX6_stands 15 = .ok (.iconst 1, 1) := by decide +kernel
theorem dX6_stands_16 : decode cX6_stands 16 = .ok (.bastore, 1) := by decide +kernel
theorem dX6_stands_17 : decode cX6_stands 17 = .ok (.aload_n 0, 1) := by decide +kernel
theorem dX6_stands_18 : decode cX6_stands 18 = .ok (.getfield 31, 3) := by decide +kernel
theorem dX6_stands_21 : decode cX6_stands 21 = .ok (.iload_n 2, 1) := by decide +kernel
theorem dX6_stands_22 : decode cX6_stands 22 = .ok (.aload_n 0, 1) := by decide +kernel
theorem dX6_stands_23 : decode cX6_stands 23 = .ok (.getfield 124, 3) := by decide +kernel
theorem dX6_stands_26 : decode cX6_stands 26 = .ok (.iastore, 1) := by decide +kernel
theorem dX6_stands_27 : decode cX6_stands 27 = .ok (.aload_n 0, 1) := by decide +kernel
theorem dX6_stands_28 : decode cX6_stands 28 = .ok (.getfield 34, 3) := by decide +kernel
theorem dX6_stands_31 : decode cX6_stands 31 = .ok (.iload_n 2, 1) := by decide +kernel
theorem dX6_stands_32 : decode cX6_stands 32 = .ok (.aload_n 0, 1) := by decide +kernel
theorem dX6_stands_33 : decode cX6_stands 33 = .ok (.getfield 127, 3) := by decide +kernel
theorem dX6_stands_36 : decode cX6_stands 36 = .ok (.iastore, 1) := by decide +kernel
theorem dX6_stands_37 : decode cX6_stands 37 = .ok (.aload_n 0, 1) := by decide +kernel
theorem dX6_stands_38 : decode cX6_stands 38 = .ok (.getfield 37, 3) := by decide +kernel
theorem dX6_stands_41 : decode cX6_stands 41 = .ok (.iload_n 2, 1) := by decide +kernel
theorem dX6_stands_42 : decode cX6_stands 42 = .ok (.aload_n 0, 1) := by decide +kernel
theorem dX6_stands_43 : decode cX6_stands 43 = .ok (.getfield 109, 3) := by decide +kernel
theorem dX6_stands_46 : decode cX6_stands 46 = .ok (.iastore, 1) := by decide +kernel
theorem dX6_stands_47 : decode cX6_stands 47 = .ok (.aload_n 0, 1) := by decide +kernel
theorem dX6_stands_48 : decode cX6_stands 48 = .ok (.getfield 40, 3) := by decide +kernel
theorem dX6_stands_51 : decode cX6_stands 51 = .ok (.iload_n 2, 1) := by decide +kernel
theorem dX6_stands_52 : decode cX6_stands 52 = .ok (.aload_n 0, 1) := by decide +kernel
theorem dX6_stands_53 : decode cX6_stands 53 = .ok (.getfield 115, 3) := by decide +kernel
theorem dX6_stands_56 : decode cX6_stands 56 = .ok (.iastore, 1) := by decide +kernel
theorem dX6_stands_57 : decode cX6_stands 57 = .ok (.aload_n 0, 1) := by decide +kernel
theorem dX6_stands_58 : decode cX6_stands 58 = .ok (.getfield 43, 3) := by decide +kernel
theorem dX6_stands_61 : decode cX6_stands 61 = .ok (.iload_n 2, 1) := by decide +kernel
theorem dX6_stands_62 : decode cX6_stands 62 = .ok (.aload_n 0, 1) := by decide +kernel
theorem dX6_stands_63 : decode cX6_stands 63 = .ok (.getfield 112, 3) := by decide +kernel
theorem dX6_stands_66 : decode cX6_stands 66 = .ok (.iastore, 1) := by decide +kernel
theorem dX6_stands_67 : decode cX6_stands 67 = .ok (.iconst 0, 1) := by decide +kernel
theorem dX6_stands_68 : decode cX6_stands 68 = .ok (.istore_n 3, 1) := by decide +kernel
theorem dX6_stands_69 : decode cX6_stands 69 = .ok (.iload_n 3, 1) := by decide +kernel
theorem dX6_stands_70 : decode cX6_stands 70 = .ok (.aload_n 0, 1) := by decide +kernel
theorem dX6_stands_71 : decode cX6_stands 71 = .ok (.getfield 112, 3) := by decide +kernel
theorem dX6_stands_74 : decode cX6_stands 74 = .ok (.if_icmp .ge 26, 3) := by decide +kernel
theorem dX6_stands_77 : decode cX6_stands 77 = .ok (.aload_n 0, 1) := by decide +kernel
theorem dX6_stands_78 : decode cX6_stands 78 = .ok (.getfield 46, 3) := by decide +kernel
theorem dX6_stands_81 : decode cX6_stands 81 = .ok (.bipush 12, 2) := by decide +kernel
theorem dX6_stands_83 : decode cX6_stands 83 = .ok (.iload_n 2, 1) := by decide +kernel
theorem dX6_stands_84 : decode cX6_stands 84 = .ok (.imul, 1) := by decide +kernel
theorem dX6_stands_85 : decode cX6_stands 85 = .ok (.iload_n 3, 1) := by decide +kernel
theorem dX6_stands_86 : decode cX6_stands 86 = .ok (.iadd, 1) := by decide +kernel
theorem dX6_stands_87 : decode cX6_stands 87 = .ok (.aload_n 0, 1) := by decide +kernel
theorem dX6_stands_88 : decode cX6_stands 88 = .ok (.getfield 49, 3) := by decide +kernel
theorem dX6_stands_91 : decode cX6_stands 91 = .ok (.iload_n 3, 1) := by decide +kernel
theorem dX6_stands_92 : decode cX6_stands 92 = .ok (.baload, 1) := by decide +kernel
theorem dX6_stands_93 : decode cX6_stands 93 = .ok (.bastore, 1) := by decide +kernel
theorem dX6_stands_94 : decode cX6_stands 94 = .ok (.iinc 3 1, 3) := by decide +kernel
theorem dX6_stands_97 : decode cX6_stands 97 = .ok (.goto (-28), 3) := by decide +kernel
theorem dX6_stands_100 : decode cX6_stands 100 = .ok (.return_, 1) := by decide +kernel
theorem dX6_picture_0 : decode cX6_picture 0 = .ok (.aload_n 0, 1) := by decide +kernel
theorem dX6_picture_1 : decode cX6_picture 1 = .ok (.getfield 136, 3) := by decide +kernel
theorem dX6_picture_4 : decode cX6_picture 4 = .ok (.bipush 8, 2) := by decide +kernel
theorem dX6_picture_6 : decode cX6_picture 6 = .ok (.if_icmp .eq 15, 3) := by decide +kernel
theorem dX6_picture_9 : decode cX6_picture 9 = .ok (.iload_n 1, 1) := by decide +kernel
theorem dX6_picture_10 : decode cX6_picture 10 = .ok (.ifCond .lt 11, 3) := by decide +kernel
theorem dX6_picture_13 : decode cX6_picture 13 = .ok (.iload_n 1, 1) := by decide +kernel
theorem dX6_picture_14 : decode cX6_picture 14 = .ok (.aload_n 0, 1) := by decide +kernel
theorem dX6_picture_15 : decode cX6_picture 15 = .ok (.getfield 67, 3) := by decide +kernel
theorem dX6_picture_18 : decode cX6_picture 18 = .ok (.if_icmp .le 5, 3) := by decide +kernel
theorem dX6_picture_21 : decode cX6_picture 21 = .ok (.iconst (-1), 1) := by decide +kernel
theorem dX6_picture_22 : decode cX6_picture 22 = .ok (.ireturn, 1) := by decide +kernel
theorem dX6_picture_23 : decode cX6_picture 23 = .ok (.aload_n 0, 1) := by decide +kernel
theorem dX6_picture_24 : decode cX6_picture 24 = .ok (.iconst 0, 1) := by decide +kernel
theorem dX6_picture_25 : decode cX6_picture 25 = .ok (.putfield 67, 3) := by decide +kernel
theorem dX6_picture_28 : decode cX6_picture 28 = .ok (.aload_n 0, 1) := by decide +kernel
theorem dX6_picture_29 : decode cX6_picture 29 = .ok (.iload_n 1, 1) := by decide +kernel
theorem dX6_picture_30 : decode cX6_picture 30 = .ok (.putfield 77, 3) := by decide +kernel
theorem dX6_picture_33 : decode cX6_picture 33 = .ok (.aload_n 0, 1) := by decide +kernel
theorem dX6_picture_34 : decode cX6_picture 34 = .ok (.iconst 0, 1) := by decide +kernel
theorem dX6_picture_35 : decode cX6_picture 35 = .ok (.putfield 74, 3) := by decide +kernel
theorem dX6_picture_38 : decode cX6_picture 38 = .ok (.aload_n 0, 1) := by decide +kernel
theorem dX6_picture_39 : decode cX6_picture 39 = .ok (.iconst (-1), 1) := by decide +kernel
theorem dX6_picture_40 : decode cX6_picture 40 = .ok (.putfield 88, 3) := by decide +kernel
theorem dX6_picture_43 : decode cX6_picture 43 = .ok (.aload_n 0, 1) := by decide +kernel
theorem dX6_picture_44 : decode cX6_picture 44 = .ok (.getfield 136, 3) := by decide +kernel
theorem dX6_picture_47 : decode cX6_picture 47 = .ok (.istore_n 2, 1) := by decide +kernel
theorem dX6_picture_48 : decode cX6_picture 48 = .ok (.aload_n 0, 1) := by decide +kernel
theorem dX6_picture_49 : decode cX6_picture 49 = .ok (.invokevirtual 80, 3) := by decide +kernel
theorem dX6_picture_52 : decode cX6_picture 52 = .ok (.bipush 116, 2) := by decide +kernel
theorem dX6_picture_54 : decode cX6_picture 54 = .ok (.if_icmp .eq 6, 3) := by decide +kernel
theorem dX6_picture_57 : decode cX6_picture 57 = .ok (.bipush (-2), 2) := by decide +kernel
theorem dX6_picture_59 : decode cX6_picture 59 = .ok (.ireturn, 1) := by decide +kernel
theorem dX6_picture_60 : decode cX6_picture 60 = .ok (.aload_n 0, 1) := by decide +kernel
theorem dX6_picture_61 : decode cX6_picture 61 = .ok (.dup, 1) := by decide +kernel
theorem dX6_picture_62 : decode cX6_picture 62 = .ok (.getfield 74, 3) := by decide +kernel
theorem dX6_picture_65 : decode cX6_picture 65 = .ok (.iconst 1, 1) := by decide +kernel
theorem dX6_picture_66 : decode cX6_picture 66 = .ok (.iadd, 1) := by decide +kernel
theorem dX6_picture_67 : decode cX6_picture 67 = .ok (.putfield 74, 3) := by decide +kernel
theorem dX6_picture_70 : decode cX6_picture 70 = .ok (.aload_n 0, 1) := by decide +kernel
theorem dX6_picture_71 : decode cX6_picture 71 = .ok (.getfield 20, 3) := by decide +kernel
theorem dX6_picture_74 : decode cX6_picture 74 = .ok (.iload_n 2, 1) := by decide +kernel
theorem dX6_picture_75 : decode cX6_picture 75 = .ok (.aload_n 0, 1) := by decide +kernel
theorem dX6_picture_76 : decode cX6_picture 76 = .ok (.iconst 4, 1) := by decide +kernel
theorem dX6_picture_77 : decode cX6_picture 77 = .ok (.sipush 9999, 3) := by decide +kernel
theorem dX6_picture_80 : decode cX6_picture 80 = .ok (.invokevirtual 101, 3) := by decide +kernel
theorem dX6_picture_83 : decode cX6_picture 83 = .ok (.iastore, 1) := by decide +kernel
theorem dX6_picture_84 : decode cX6_picture 84 = .ok (.aload_n 0, 1) := by decide +kernel
theorem dX6_picture_85 : decode cX6_picture 85 = .ok (.getfield 88, 3) := by decide +kernel
theorem dX6_picture_88 : decode cX6_picture 88 = .ok (.iconst (-1), 1) := by decide +kernel
theorem dX6_picture_89 : decode cX6_picture 89 = .ok (.if_icmp .ne 23, 3) := by decide +kernel
theorem dX6_picture_92 : decode cX6_picture 92 = .ok (.aload_n 0, 1) := by decide +kernel
theorem dX6_picture_93 : decode cX6_picture 93 = .ok (.getfield 74, 3) := by decide +kernel
theorem dX6_picture_96 : decode cX6_picture 96 = .ok (.aload_n 0, 1) := by decide +kernel
theorem dX6_picture_97 : decode cX6_picture 97 = .ok (.getfield 77, 3) := by decide +kernel
theorem dX6_picture_100 : decode cX6_picture 100 = .ok (.if_icmp .ge 15, 3) := by decide +kernel
theorem dX6_picture_103 : decode cX6_picture 103 = .ok (.aload_n 0, 1) := by decide +kernel
theorem dX6_picture_104 : decode cX6_picture 104 = .ok (.invokevirtual 80, 3) := by decide +kernel
theorem dX6_picture_107 : decode cX6_picture 107 = .ok (.bipush 59, 2) := by decide +kernel
theorem dX6_picture_109 : decode cX6_picture 109 = .ok (.if_icmp .eq 6, 3) := by decide +kernel
theorem dX6_picture_112 : decode cX6_picture 112 = .ok (.bipush (-2), 2) := by decide +kernel
theorem dX6_picture_114 : decode cX6_picture 114 = .ok (.ireturn, 1) := by decide +kernel
theorem dX6_picture_115 : decode cX6_picture 115 = .ok (.iconst 0, 1) := by decide +kernel
theorem dX6_picture_116 : decode cX6_picture 116 = .ok (.istore_n 3, 1) := by decide +kernel
theorem dX6_picture_117 : decode cX6_picture 117 = .ok (.iload_n 3, 1) := by decide +kernel
theorem dX6_picture_118 : decode cX6_picture 118 = .ok (.iload_n 2, 1) := by decide +kernel
theorem dX6_picture_119 : decode cX6_picture 119 = .ok (.if_icmp .ge 27, 3) := by decide +kernel
theorem dX6_picture_122 : decode cX6_picture 122 = .ok (.aload_n 0, 1) := by decide +kernel
theorem dX6_picture_123 : decode cX6_picture 123 = .ok (.getfield 20, 3) := by decide +kernel
theorem dX6_picture_126 : decode cX6_picture 126 = .ok (.iload_n 3, 1) := by decide +kernel
theorem dX6_picture_127 : decode cX6_picture 127 = .ok (.iaload, 1) := by decide +kernel
theorem dX6_picture_128 : decode cX6_picture 128 = .ok (.aload_n 0, 1) := by decide +kernel
theorem dX6_picture_129 : decode cX6_picture 129 = .ok (.getfield 20, 3) := by decide +kernel
theorem dX6_picture_132 : decode cX6_picture 132 = .ok (.iload_n 2, 1) := by decide +kernel
theorem dX6_picture_133 : decode cX6_picture 133 = .ok (.iaload, 1) := by decide +kernel
theorem dX6_picture_134 : decode cX6_picture 134 = .ok (.if_icmp .ne 6, 3) := by decide +kernel
theorem dX6_picture_137 : decode cX6_picture 137 = .ok (.bipush (-2), 2) := by decide +kernel
theorem dX6_picture_139 : decode cX6_picture 139 = .ok (.ireturn, 1) := by decide +kernel
theorem dX6_picture_140 : decode cX6_picture 140 = .ok (.iinc 3 1, 3) := by decide +kernel
theorem dX6_picture_143 : decode cX6_picture 143 = .ok (.goto (-26), 3) := by decide +kernel
theorem dX6_picture_146 : decode cX6_picture 146 = .ok (.iconst 0, 1) := by decide +kernel
theorem dX6_picture_147 : decode cX6_picture 147 = .ok (.istore_n 3, 1) := by decide +kernel
theorem dX6_picture_148 : decode cX6_picture 148 = .ok (.iload_n 3, 1) := by decide +kernel
theorem dX6_picture_149 : decode cX6_picture 149 = .ok (.bipush 24, 2) := by decide +kernel
theorem dX6_picture_151 : decode cX6_picture 151 = .ok (.if_icmp .ge 21, 3) := by decide +kernel
theorem dX6_picture_154 : decode cX6_picture 154 = .ok (.aload_n 0, 1) := by decide +kernel
theorem dX6_picture_155 : decode cX6_picture 155 = .ok (.getfield 27, 3) := by decide +kernel
theorem dX6_picture_158 : decode cX6_picture 158 = .ok (.bipush 24, 2) := by decide +kernel
theorem dX6_picture_160 : decode cX6_picture 160 = .ok (.iload_n 2, 1) := by decide +kernel
theorem dX6_picture_161 : decode cX6_picture 161 = .ok (.imul, 1) := by decide +kernel
theorem dX6_picture_162 : decode cX6_picture 162 = .ok (.iload_n 3, 1) := by decide +kernel
theorem dX6_picture_163 : decode cX6_picture 163 = .ok (.iadd, 1) := by decide +kernel
theorem dX6_picture_164 : decode cX6_picture 164 = .ok (.iconst 0, 1) := by decide +kernel
theorem dX6_picture_165 : decode cX6_picture 165 = .ok (.bastore, 1) := by decide +kernel
theorem dX6_picture_166 : decode cX6_picture 166 = .ok (.iinc 3 1, 3) := by decide +kernel
theorem dX6_picture_169 : decode cX6_picture 169 = .ok (.goto (-21), 3) := by decide +kernel
theorem dX6_picture_172 : decode cX6_picture 172 = .ok (.aload_n 0, 1) := by decide +kernel
theorem dX6_picture_173 : decode cX6_picture 173 = .ok (.getfield 88, 3) := by decide +kernel
theorem dX6_picture_176 : decode cX6_picture 176 = .ok (.iconst (-1), 1) := by decide +kernel
theorem dX6_picture_177 : decode cX6_picture 177 = .ok (.if_icmp .ne 35, 3) := by decide +kernel
theorem dX6_picture_180 : decode cX6_picture 180 = .ok (.aload_n 0, 1) := by decide +kernel
theorem dX6_picture_181 : decode cX6_picture 181 = .ok (.getfield 74, 3) := by decide +kernel
theorem dX6_picture_184 : decode cX6_picture 184 = .ok (.aload_n 0, 1) := by decide +kernel
theorem dX6_picture_185 : decode cX6_picture 185 = .ok (.getfield 77, 3) := by decide +kernel
theorem dX6_picture_188 : decode cX6_picture 188 = .ok (.if_icmp .ge 24, 3) := by decide +kernel
theorem dX6_picture_191 : decode cX6_picture 191 = .ok (.aload_n 0, 1) := by decide +kernel
theorem dX6_picture_192 : decode cX6_picture 192 = .ok (.iload_n 2, 1) := by decide +kernel
theorem dX6_picture_193 : decode cX6_picture 193 = .ok (.invokevirtual 139, 3) := by decide +kernel
theorem dX6_picture_196 : decode cX6_picture 196 = .ok (.aload_n 0, 1) := by decide +kernel
theorem dX6_picture_197 : decode cX6_picture 197 = .ok (.getfield 88, 3) := by decide +kernel
theorem dX6_picture_200 : decode cX6_picture 200 = .ok (.iconst (-1), 1) := by decide +kernel
theorem dX6_picture_201 : decode cX6_picture 201 = .ok (.if_icmp .ne (-29), 3) := by decide +kernel
theorem dX6_picture_204 : decode cX6_picture 204 = .ok (.aload_n 0, 1) := by decide +kernel
theorem dX6_picture_205 : decode cX6_picture 205 = .ok (.iload_n 2, 1) := by decide +kernel
theorem dX6_picture_206 : decode cX6_picture 206 = .ok (.invokevirtual 142, 3) := by decide +kernel
theorem dX6_picture_209 : decode cX6_picture 209 = .ok (.goto (-37), 3) := by decide +kernel
theorem dX6_picture_212 : decode cX6_picture 212 = .ok (.aload_n 0, 1) := by decide +kernel
theorem dX6_picture_213 : decode cX6_picture 213 = .ok (.getfield 24, 3) := by decide +kernel
theorem dX6_picture_216 : decode cX6_picture 216 = .ok (.iload_n 2, 1) := by decide +kernel
theorem dX6_picture_217 : decode cX6_picture 217 = .ok (.aload_n 0, 1) := by decide +kernel
theorem dX6_picture_218 : decode cX6_picture 218 = .ok (.getfield 88, 3) := by decide +kernel
theorem dX6_picture_221 : decode cX6_picture 221 = .ok (.iastore, 1) := by decide +kernel
theorem dX6_picture_222 : decode cX6_picture 222 = .ok (.aload_n 0, 1) := by decide +kernel
theorem dX6_picture_223 : decode cX6_picture 223 = .ok (.dup, 1) := by decide +kernel
theorem dX6_picture_224 : decode cX6_picture 224 = .ok (.getfield 136, 3) := by decide +kernel
theorem dX6_picture_227 : decode cX6_picture 227 = .ok (.iconst 1, 1) := by decide +kernel
theorem dX6_picture_228 : decode cX6_picture 228 = .ok (.iadd, 1) := by decide +kernel
theorem dX6_picture_229 : decode cX6_picture 229 = .ok (.putfield 136, 3) := by decide +kernel
theorem dX6_picture_232 : decode cX6_picture 232 = .ok (.iload_n 2, 1) := by decide +kernel
theorem dX6_picture_233 : decode cX6_picture 233 = .ok (.ireturn, 1) := by decide +kernel
theorem dX6_isPicture_0 : decode cX6_isPicture 0 = .ok (.iload_n 1, 1) := by decide +kernel
theorem dX6_isPicture_1 : decode cX6_isPicture 1 = .ok (.iconst 0, 1) := by decide +kernel
theorem dX6_isPicture_2 : decode cX6_isPicture 2 = .ok (.aload_n 0, 1) := by decide +kernel
theorem dX6_isPicture_3 : decode cX6_isPicture 3 = .ok (.getfield 136, 3) := by decide +kernel
theorem dX6_isPicture_6 : decode cX6_isPicture 6 = .ok (.iconst 1, 1) := by decide +kernel
theorem dX6_isPicture_7 : decode cX6_isPicture 7 = .ok (.isub, 1) := by decide +kernel
theorem dX6_isPicture_8 : decode cX6_isPicture 8 = .ok (.invokestatic 84, 3) := by decide +kernel
theorem dX6_isPicture_11 : decode cX6_isPicture 11 = .ok (.ireturn, 1) := by decide +kernel
theorem dX6_isThere_0 : decode cX6_isThere 0 = .ok (.aload_n 0, 1) := by decide +kernel
theorem dX6_isThere_1 : decode cX6_isThere 1 = .ok (.iload_n 1, 1) := by decide +kernel
theorem dX6_isThere_2 : decode cX6_isThere 2 = .ok (.invokevirtual 145, 3) := by decide +kernel
theorem dX6_isThere_5 : decode cX6_isThere 5 = .ok (.ifCond .eq 31, 3) := by decide +kernel
theorem dX6_isThere_8 : decode cX6_isThere 8 = .ok (.iload_n 2, 1) := by decide +kernel
theorem dX6_isThere_9 : decode cX6_isThere 9 = .ok (.iconst 0, 1) := by decide +kernel
theorem dX6_isThere_10 : decode cX6_isThere 10 = .ok (.bipush 23, 2) := by decide +kernel
theorem dX6_isThere_12 : decode cX6_isThere 12 = .ok (.invokestatic 84, 3) := by decide +kernel
theorem dX6_isThere_15 : decode cX6_isThere 15 = .ok (.ifCond .eq 21, 3) := by decide +kernel
theorem dX6_isThere_18 : decode cX6_isThere 18 = .ok (.aload_n 0, 1) := by decide +kernel
theorem dX6_isThere_19 : decode cX6_isThere 19 = .ok (.getfield 27, 3) := by decide +kernel
theorem dX6_isThere_22 : decode cX6_isThere 22 = .ok (.bipush 24, 2) := by decide +kernel
theorem dX6_isThere_24 : decode cX6_isThere 24 = .ok (.iload_n 1, 1) := by decide +kernel
theorem dX6_isThere_25 : decode cX6_isThere 25 = .ok (.imul, 1) := by decide +kernel
theorem dX6_isThere_26 : decode cX6_isThere 26 = .ok (.iload_n 2, 1) := by decide +kernel
theorem dX6_isThere_27 : decode cX6_isThere 27 = .ok (.iadd, 1) := by decide +kernel
theorem dX6_isThere_28 : decode cX6_isThere 28 = .ok (.baload, 1) := by decide +kernel
theorem dX6_isThere_29 : decode cX6_isThere 29 = .ok (.ifCond .eq 7, 3) := by decide +kernel
theorem dX6_isThere_32 : decode cX6_isThere 32 = .ok (.iconst 1, 1) := by decide +kernel
theorem dX6_isThere_33 : decode cX6_isThere 33 = .ok (.goto 4, 3) := by decide +kernel
theorem dX6_isThere_36 : decode cX6_isThere 36 = .ok (.iconst 0, 1) := by decide +kernel
theorem dX6_isThere_37 : decode cX6_isThere 37 = .ok (.ireturn, 1) := by decide +kernel
theorem dX6_torn_0 : decode cX6_torn 0 = .ok (.aload_n 0, 1) := by decide +kernel
theorem dX6_torn_1 : decode cX6_torn 1 = .ok (.iload_n 1, 1) := by decide +kernel
theorem dX6_torn_2 : decode cX6_torn 2 = .ok (.invokevirtual 145, 3) := by decide +kernel
theorem dX6_torn_5 : decode cX6_torn 5 = .ok (.ifCond .eq 12, 3) := by decide +kernel
theorem dX6_torn_8 : decode cX6_torn 8 = .ok (.aload_n 0, 1) := by decide +kernel
theorem dX6_torn_9 : decode cX6_torn 9 = .ok (.getfield 24, 3) := by decide +kernel
theorem dX6_torn_12 : decode cX6_torn 12 = .ok (.iload_n 1, 1) := by decide +kernel
theorem dX6_torn_13 : decode cX6_torn 13 = .ok (.iaload, 1) := by decide +kernel
theorem dX6_torn_14 : decode cX6_torn 14 = .ok (.goto 4, 3) := by decide +kernel
theorem dX6_torn_17 : decode cX6_torn 17 = .ok (.iconst (-1), 1) := by decide +kernel
theorem dX6_torn_18 : decode cX6_torn 18 = .ok (.ireturn, 1) := by decide +kernel
theorem dX6_look_0 : decode cX6_look 0 = .ok (.aload_n 0, 1) := by decide +kernel
theorem dX6_look_1 : decode cX6_look 1 = .ok (.iload_n 1, 1) := by decide +kernel
theorem dX6_look_2 : decode cX6_look 2 = .ok (.iload_n 2, 1) := by decide +kernel
theorem dX6_look_3 : decode cX6_look 3 = .ok (.invokevirtual 149, 3) := by decide +kernel
theorem dX6_look_6 : decode cX6_look 6 = .ok (.ifCond .ne 5, 3) := by decide +kernel
theorem dX6_look_9 : decode cX6_look 9 = .ok (.iconst (-1), 1) := by decide +kernel
theorem dX6_look_10 : decode cX6_look 10 = .ok (.ireturn, 1) := by decide +kernel
theorem dX6_look_11 : decode cX6_look 11 = .ok (.bipush 24, 2) := by decide +kernel
theorem dX6_look_13 : decode cX6_look 13 = .ok (.iload_n 1, 1) := by decide +kernel
theorem dX6_look_14 : decode cX6_look 14 = .ok (.imul, 1) := by decide +kernel
theorem dX6_look_15 : decode cX6_look 15 = .ok (.iload_n 2, 1) := by decide +kernel
theorem dX6_look_16 : decode cX6_look 16 = .ok (.iadd, 1) := by decide +kernel
theorem dX6_look_17 : decode cX6_look 17 = .ok (.istore 4, 2) := by decide +kernel
theorem dX6_look_19 : decode cX6_look 19 = .ok (.iload_n 3, 1) := by decide +kernel
theorem dX6_look_20 : decode cX6_look 20 = .ok (.bipush 10, 2) := by decide +kernel
theorem dX6_look_22 : decode cX6_look 22 = .ok (.isub, 1) := by decide +kernel
theorem dX6_look_23 : decode cX6_look 23 = .ok (.iconst 0, 1) := by decide +kernel
theorem dX6_look_24 : decode cX6_look 24 = .ok (.aload_n 0, 1) := by decide +kernel
theorem dX6_look_25 : decode cX6_look 25 = .ok (.getfield 43, 3) := by decide +kernel
theorem dX6_look_28 : decode cX6_look 28 = .ok (.iload 4, 2) := by decide +kernel
theorem dX6_look_30 : decode cX6_look 30 = .ok (.iaload, 1) := by decide +kernel
theorem dX6_look_31 : decode cX6_look 31 = .ok (.iconst 1, 1) := by decide +kernel
theorem dX6_look_32 : decode cX6_look 32 = .ok (.isub, 1) := by decide +kernel
theorem dX6_look_33 : decode cX6_look 33 = .ok (.invokestatic 84, 3) := by decide +kernel
theorem dX6_look_36 : decode cX6_look 36 = .ok (.ifCond .eq 19, 3) := by decide +kernel
theorem dX6_look_39 : decode cX6_look 39 = .ok (.aload_n 0, 1) := by decide +kernel
theorem dX6_look_40 : decode cX6_look 40 = .ok (.getfield 46, 3) := by decide +kernel
theorem dX6_look_43 : decode cX6_look 43 = .ok (.bipush 12, 2) := by decide +kernel
theorem dX6_look_45 : decode cX6_look 45 = .ok (.iload 4, 2) := by decide +kernel
theorem dX6_look_47 : decode cX6_look 47 = .ok (.imul, 1) := by decide +kernel
theorem dX6_look_48 : decode cX6_look 48 = .ok (.iload_n 3, 1) := by decide +kernel
theorem dX6_look_49 : decode cX6_look 49 = .ok (.iadd, 1) := by decide +kernel
theorem dX6_look_50 : decode cX6_look 50 = .ok (.bipush 10, 2) := by decide +kernel
theorem dX6_look_52 : decode cX6_look 52 = .ok (.isub, 1) := by decide +kernel
theorem dX6_look_53 : decode cX6_look 53 = .ok (.baload, 1) := by decide +kernel
theorem dX6_look_54 : decode cX6_look 54 = .ok (.ireturn, 1) := by decide +kernel
theorem dX6_look_55 : decode cX6_look 55 = .ok (.iload_n 3, 1) := by decide +kernel
theorem dX6_look_56 : decode cX6_look 56 = .ok (.tableswitch 76 0 4 #[36, 44, 52, 60, 68], 36) := by decide +kernel
theorem dX6_look_92 : decode cX6_look 92 = .ok (.aload_n 0, 1) := by decide +kernel
theorem dX6_look_93 : decode cX6_look 93 = .ok (.getfield 31, 3) := by decide +kernel
theorem dX6_look_96 : decode cX6_look 96 = .ok (.iload 4, 2) := by decide +kernel
theorem dX6_look_98 : decode cX6_look 98 = .ok (.iaload, 1) := by decide +kernel
theorem dX6_look_99 : decode cX6_look 99 = .ok (.ireturn, 1) := by decide +kernel
theorem dX6_look_100 : decode cX6_look 100 = .ok (.aload_n 0, 1) := by decide +kernel
theorem dX6_look_101 : decode cX6_look 101 = .ok (.getfield 34, 3) := by decide +kernel
theorem dX6_look_104 : decode cX6_look 104 = .ok (.iload 4, 2) := by decide +kernel
theorem dX6_look_106 : decode cX6_look 106 = .ok (.iaload, 1) := by decide +kernel
theorem dX6_look_107 : decode cX6_look 107 = .ok (.ireturn, 1) := by decide +kernel
theorem dX6_look_108 : decode cX6_look 108 = .ok (.aload_n 0, 1) := by decide +kernel
theorem dX6_look_109 : decode cX6_look 109 = .ok (.getfield 37, 3) := by decide +kernel
theorem dX6_look_112 : decode cX6_look 112 = .ok (.iload 4, 2) := by decide +kernel
theorem dX6_look_114 : decode cX6_look 114 = .ok (.iaload, 1) := by decide +kernel
theorem dX6_look_115 : decode cX6_look 115 = .ok (.ireturn, 1) := by decide +kernel
theorem dX6_look_116 : decode cX6_look 116 = .ok (.aload_n 0, 1) := by decide +kernel
theorem dX6_look_117 : decode cX6_look 117 = .ok (.getfield 40, 3) := by decide +kernel
theorem dX6_look_120 : decode cX6_look 120 = .ok (.iload 4, 2) := by decide +kernel
theorem dX6_look_122 : decode cX6_look 122 = .ok (.iaload, 1) := by decide +kernel
theorem dX6_look_123 : decode cX6_look 123 = .ok (.ireturn, 1) := by decide +kernel
theorem dX6_look_124 : decode cX6_look 124 = .ok (.aload_n 0, 1) := by decide +kernel
theorem dX6_look_125 : decode cX6_look 125 = .ok (.getfield 43, 3) := by decide +kernel
theorem dX6_look_128 : decode cX6_look 128 = .ok (.iload 4, 2) := by decide +kernel
theorem dX6_look_130 : decode cX6_look 130 = .ok (.iaload, 1) := by decide +kernel
theorem dX6_look_131 : decode cX6_look 131 = .ok (.ireturn, 1) := by decide +kernel
theorem dX6_look_132 : decode cX6_look 132 = .ok (.iconst (-1), 1) := by decide +kernel
theorem dX6_look_133 : decode cX6_look 133 = .ok (.ireturn, 1) := by decide +kernel
theorem dX6_holderOf_0 : decode cX6_holderOf 0 = .ok (.iconst 0, 1) := by decide +kernel
theorem dX6_holderOf_1 : decode cX6_holderOf 1 = .ok (.istore_n 3, 1) := by decide +kernel
theorem dX6_holderOf_2 : decode cX6_holderOf 2 = .ok (.iload_n 3, 1) := by decide +kernel
theorem dX6_holderOf_3 : decode cX6_holderOf 3 = .ok (.bipush 24, 2) := by decide +kernel
theorem dX6_holderOf_5 : decode cX6_holderOf 5 = .ok (.if_icmp .ge 44, 3) := by decide +kernel
theorem dX6_holderOf_8 : decode cX6_holderOf 8 = .ok (.aload_n 0, 1) := by decide +kernel
theorem dX6_holderOf_9 : decode cX6_holderOf 9 = .ok (.getfield 27, 3) := by decide +kernel
theorem dX6_holderOf_12 : decode cX6_holderOf 12 = .ok (.bipush 24, 2) := by decide +kernel
theorem dX6_holderOf_14 : decode cX6_holderOf 14 = .ok (.iload_n 1, 1) := by decide +kernel
theorem dX6_holderOf_15 : decode cX6_holderOf 15 = .ok (.imul, 1) := by decide +kernel
theorem dX6_holderOf_16 : decode cX6_holderOf 16 = .ok (.iload_n 3, 1) := by decide +kernel
theorem dX6_holderOf_17 : decode cX6_holderOf 17 = .ok (.iadd, 1) := by decide +kernel
theorem dX6_holderOf_18 : decode cX6_holderOf 18 = .ok (.baload, 1) := by decide +kernel
theorem dX6_holderOf_19 : decode cX6_holderOf 19 = .ok (.ifCond .eq 24, 3) := by decide +kernel
theorem dX6_holderOf_22 : decode cX6_holderOf 22 = .ok (.aload_n 0, 1) := by decide +kernel
theorem dX6_holderOf_23 : decode cX6_holderOf 23 = .ok (.getfield 37, 3) := by decide +kernel
theorem dX6_holderOf_26 : decode cX6_holderOf 26 = .ok (.bipush 24, 2) := by decide +kernel
theorem dX6_holderOf_28 : decode cX6_holderOf 28 = .ok (.iload_n 1, 1) := by decide +kernel
theorem dX6_holderOf_29 : decode cX6_holderOf 29 = .ok (.imul, 1) := by decide +kernel
theorem dX6_holderOf_30 : decode cX6_holderOf 30 = .ok (.iload_n 3, 1) := by decide +kernel
theorem dX6_holderOf_31 : decode cX6_holderOf 31 = .ok (.iadd, 1) := by decide +kernel
theorem dX6_holderOf_32 : decode cX6_holderOf 32 = .ok (.iaload, 1) := by decide +kernel
theorem dX6_holderOf_33 : decode cX6_holderOf 33 = .ok (.iload_n 2, 1) := by decide +kernel
theorem dX6_holderOf_34 : decode cX6_holderOf 34 = .ok (.ishr, 1) := by decide +kernel
theorem dX6_holderOf_35 : decode cX6_holderOf 35 = .ok (.iconst 1, 1) := by decide +kernel
theorem dX6_holderOf_36 : decode cX6_holderOf 36 = .ok (.iand, 1) := by decide +kernel
theorem dX6_holderOf_37 : decode cX6_holderOf 37 = .ok (.iconst 1, 1) := by decide +kernel
theorem dX6_holderOf_38 : decode cX6_holderOf 38 = .ok (.if_icmp .ne 5, 3) := by decide +kernel
theorem dX6_holderOf_41 : decode cX6_holderOf 41 = .ok (.iload_n 3, 1) := by decide +kernel
theorem dX6_holderOf_42 : decode cX6_holderOf 42 = .ok (.ireturn, 1) := by decide +kernel
theorem dX6_holderOf_43 : decode cX6_holderOf 43 = .ok (.iinc 3 1, 3) := by decide +kernel
theorem dX6_holderOf_46 : decode cX6_holderOf 46 = .ok (.goto (-44), 3) := by decide +kernel
theorem dX6_holderOf_49 : decode cX6_holderOf 49 = .ok (.iconst (-1), 1) := by decide +kernel
theorem dX6_holderOf_50 : decode cX6_holderOf 50 = .ok (.ireturn, 1) := by decide +kernel
theorem dX6_holder_0 : decode cX6_holder 0 = .ok (.aload_n 0, 1) := by decide +kernel
theorem dX6_holder_1 : decode cX6_holder 1 = .ok (.iload_n 1, 1) := by decide +kernel
theorem dX6_holder_2 : decode cX6_holder 2 = .ok (.invokevirtual 145, 3) := by decide +kernel
theorem dX6_holder_5 : decode cX6_holder 5 = .ok (.ifCond .eq 22, 3) := by decide +kernel
theorem dX6_holder_8 : decode cX6_holder 8 = .ok (.iload_n 2, 1) := by decide +kernel
theorem dX6_holder_9 : decode cX6_holder 9 = .ok (.iconst 0, 1) := by decide +kernel
theorem dX6_holder_10 : decode cX6_holder 10 = .ok (.bipush 15, 2) := by decide +kernel
theorem dX6_holder_12 : decode cX6_holder 12 = .ok (.invokestatic 84, 3) := by decide +kernel
theorem dX6_holder_15 : decode cX6_holder 15 = .ok (.ifCond .eq 12, 3) := by decide +kernel
theorem dX6_holder_18 : decode cX6_holder 18 = .ok (.aload_n 0, 1) := by decide +kernel
theorem dX6_holder_19 : decode cX6_holder 19 = .ok (.iload_n 1, 1) := by decide +kernel
theorem dX6_holder_20 : decode cX6_holder 20 = .ok (.iload_n 2, 1) := by decide +kernel
theorem dX6_holder_21 : decode cX6_holder 21 = .ok (.invokevirtual 153, 3) := by decide +kernel
theorem dX6_holder_24 : decode cX6_holder 24 = .ok (.goto 4, 3) := by decide +kernel
theorem dX6_holder_27 : decode cX6_holder 27 = .ok (.iconst (-1), 1) := by decide +kernel
theorem dX6_holder_28 : decode cX6_holder 28 = .ok (.ireturn, 1) := by decide +kernel
theorem dX6_next_0 : decode cX6_next 0 = .ok (.aload_n 0, 1) := by decide +kernel
theorem dX6_next_1 : decode cX6_next 1 = .ok (.getfield 40, 3) := by decide +kernel
theorem dX6_next_4 : decode cX6_next 4 = .ok (.bipush 24, 2) := by decide +kernel
theorem dX6_next_6 : decode cX6_next 6 = .ok (.iload_n 1, 1) := by decide +kernel
theorem dX6_next_7 : decode cX6_next 7 = .ok (.imul, 1) := by decide +kernel
theorem dX6_next_8 : decode cX6_next 8 = .ok (.iload_n 2, 1) := by decide +kernel
theorem dX6_next_9 : decode cX6_next 9 = .ok (.iadd, 1) := by decide +kernel
theorem dX6_next_10 : decode cX6_next 10 = .ok (.iaload, 1) := by decide +kernel
theorem dX6_next_11 : decode cX6_next 11 = .ok (.iconst (-1), 1) := by decide +kernel
theorem dX6_next_12 : decode cX6_next 12 = .ok (.if_icmp .ne 7, 3) := by decide +kernel
theorem dX6_next_15 : decode cX6_next 15 = .ok (.iconst (-1), 1) := by decide +kernel
theorem dX6_next_16 : decode cX6_next 16 = .ok (.goto 19, 3) := by decide +kernel
theorem dX6_next_19 : decode cX6_next 19 = .ok (.aload_n 0, 1) := by decide +kernel
theorem dX6_next_20 : decode cX6_next 20 = .ok (.iload_n 1, 1) := by decide +kernel
theorem dX6_next_21 : decode cX6_next 21 = .ok (.aload_n 0, 1) := by decide +kernel
theorem dX6_next_22 : decode cX6_next 22 = .ok (.getfield 40, 3) := by decide +kernel
theorem dX6_next_25 : decode cX6_next 25 = .ok (.bipush 24, 2) := by decide +kernel
theorem dX6_next_27 : decode cX6_next 27 = .ok (.iload_n 1, 1) := by decide +kernel
theorem dX6_next_28 : decode cX6_next 28 = .ok (.imul, 1) := by decide +kernel
theorem dX6_next_29 : decode cX6_next 29 = .ok (.iload_n 2, 1) := by decide +kernel
theorem dX6_next_30 : decode cX6_next 30 = .ok (.iadd, 1) := by decide +kernel
theorem dX6_next_31 : decode cX6_next 31 = .ok (.iaload, 1) := by decide +kernel
theorem dX6_next_32 : decode cX6_next 32 = .ok (.invokevirtual 153, 3) := by decide +kernel
theorem dX6_next_35 : decode cX6_next 35 = .ok (.ireturn, 1) := by decide +kernel
theorem dX6_after_0 : decode cX6_after 0 = .ok (.iload_n 2, 1) := by decide +kernel
theorem dX6_after_1 : decode cX6_after 1 = .ok (.istore 4, 2) := by decide +kernel
theorem dX6_after_3 : decode cX6_after 3 = .ok (.iconst 0, 1) := by decide +kernel
theorem dX6_after_4 : decode cX6_after 4 = .ok (.istore 5, 2) := by decide +kernel
theorem dX6_after_6 : decode cX6_after 6 = .ok (.iload 5, 2) := by decide +kernel
theorem dX6_after_8 : decode cX6_after 8 = .ok (.iload_n 3, 1) := by decide +kernel
theorem dX6_after_9 : decode cX6_after 9 = .ok (.if_icmp .ge 24, 3) := by decide +kernel
theorem dX6_after_12 : decode cX6_after 12 = .ok (.iload 4, 2) := by decide +kernel
theorem dX6_after_14 : decode cX6_after 14 = .ok (.iconst (-1), 1) := by decide +kernel
theorem dX6_after_15 : decode cX6_after 15 = .ok (.if_icmp .eq 18, 3) := by decide +kernel
theorem dX6_after_18 : decode cX6_after 18 = .ok (.aload_n 0, 1) := by decide +kernel
theorem dX6_after_19 : decode cX6_after 19 = .ok (.iload_n 1, 1) := by decide +kernel
theorem dX6_after_20 : decode cX6_after 20 = .ok (.iload 4, 2) := by decide +kernel
theorem dX6_after_22 : decode cX6_after 22 = .ok (.invokevirtual 156, 3) := by decide +kernel
theorem dX6_after_25 : decode cX6_after 25 = .ok (.istore 4, 2) := by decide +kernel
theorem dX6_after_27 : decode cX6_after 27 = .ok (.iinc 5 1, 3) := by decide +kernel
theorem dX6_after_30 : decode cX6_after 30 = .ok (.goto (-24), 3) := by decide +kernel
theorem dX6_after_33 : decode cX6_after 33 = .ok (.iload 4, 2) := by decide +kernel
theorem dX6_after_35 : decode cX6_after 35 = .ok (.ireturn, 1) := by decide +kernel
theorem dX6_back_0 : decode cX6_back 0 = .ok (.iload_n 2, 1) := by decide +kernel
theorem dX6_back_1 : decode cX6_back 1 = .ok (.istore_n 3, 1) := by decide +kernel
theorem dX6_back_2 : decode cX6_back 2 = .ok (.iconst 1, 1) := by decide +kernel
theorem dX6_back_3 : decode cX6_back 3 = .ok (.istore 4, 2) := by decide +kernel
theorem dX6_back_5 : decode cX6_back 5 = .ok (.iload 4, 2) := by decide +kernel
theorem dX6_back_7 : decode cX6_back 7 = .ok (.bipush 24, 2) := by decide +kernel
theorem dX6_back_9 : decode cX6_back 9 = .ok (.if_icmp .gt 31, 3) := by decide +kernel
theorem dX6_back_12 : decode cX6_back 12 = .ok (.aload_n 0, 1) := by decide +kernel
theorem dX6_back_13 : decode cX6_back 13 = .ok (.iload_n 1, 1) := by decide +kernel
theorem dX6_back_14 : decode cX6_back 14 = .ok (.iload_n 3, 1) := by decide +kernel
theorem dX6_back_15 : decode cX6_back 15 = .ok (.invokevirtual 156, 3) := by decide +kernel
theorem dX6_back_18 : decode cX6_back 18 = .ok (.istore_n 3, 1) := by decide +kernel
theorem dX6_back_19 : decode cX6_back 19 = .ok (.iload_n 3, 1) := by decide +kernel
theorem dX6_back_20 : decode cX6_back 20 = .ok (.iconst (-1), 1) := by decide +kernel
theorem dX6_back_21 : decode cX6_back 21 = .ok (.if_icmp .ne 5, 3) := by decide +kernel
theorem dX6_back_24 : decode cX6_back 24 = .ok (.iconst 0, 1) := by decide +kernel
theorem dX6_back_25 : decode cX6_back 25 = .ok (.ireturn, 1) := by decide +kernel
theorem dX6_back_26 : decode cX6_back 26 = .ok (.iload_n 3, 1) := by decide +kernel
theorem dX6_back_27 : decode cX6_back 27 = .ok (.iload_n 2, 1) := by decide +kernel
theorem dX6_back_28 : decode cX6_back 28 = .ok (.if_icmp .ne 6, 3) := by decide +kernel
theorem dX6_back_31 : decode cX6_back 31 = .ok (.iload 4, 2) := by decide +kernel
theorem dX6_back_33 : decode cX6_back 33 = .ok (.ireturn, 1) := by decide +kernel
theorem dX6_back_34 : decode cX6_back 34 = .ok (.iinc 4 1, 3) := by decide +kernel
theorem dX6_back_37 : decode cX6_back 37 = .ok (.goto (-32), 3) := by decide +kernel
theorem dX6_back_40 : decode cX6_back 40 = .ok (.iconst 0, 1) := by decide +kernel
theorem dX6_back_41 : decode cX6_back 41 = .ok (.ireturn, 1) := by decide +kernel
theorem dX6_isLowest_0 : decode cX6_isLowest 0 = .ok (.aload_n 0, 1) := by decide +kernel
theorem dX6_isLowest_1 : decode cX6_isLowest 1 = .ok (.iload_n 1, 1) := by decide +kernel
theorem dX6_isLowest_2 : decode cX6_isLowest 2 = .ok (.iload_n 2, 1) := by decide +kernel
theorem dX6_isLowest_3 : decode cX6_isLowest 3 = .ok (.invokevirtual 159, 3) := by decide +kernel
theorem dX6_isLowest_6 : decode cX6_isLowest 6 = .ok (.istore_n 3, 1) := by decide +kernel
theorem dX6_isLowest_7 : decode cX6_isLowest 7 = .ok (.iload_n 2, 1) := by decide +kernel
theorem dX6_isLowest_8 : decode cX6_isLowest 8 = .ok (.istore 4, 2) := by decide +kernel
theorem dX6_isLowest_10 : decode cX6_isLowest 10 = .ok (.iconst 1, 1) := by decide +kernel
theorem dX6_isLowest_11 : decode cX6_isLowest 11 = .ok (.istore 5, 2) := by decide +kernel
theorem dX6_isLowest_13 : decode cX6_isLowest 13 = .ok (.iload 5, 2) := by decide +kernel
theorem dX6_isLowest_15 : decode cX6_isLowest 15 = .ok (.iload_n 3, 1) := by decide +kernel
theorem dX6_isLowest_16 : decode cX6_isLowest 16 = .ok (.if_icmp .ge 26, 3) := by decide +kernel
theorem dX6_isLowest_19 : decode cX6_isLowest 19 = .ok (.aload_n 0, 1) := by decide +kernel
theorem dX6_isLowest_20 : decode cX6_isLowest 20 = .ok (.iload_n 1, 1) := by decide +kernel
theorem dX6_isLowest_21 : decode cX6_isLowest 21 = .ok (.iload 4, 2) := by decide +kernel
theorem dX6_isLowest_23 : decode cX6_isLowest 23 = .ok (.invokevirtual 156, 3) := by decide +kernel
theorem dX6_isLowest_26 : decode cX6_isLowest 26 = .ok (.istore 4, 2) := by decide +kernel
theorem dX6_isLowest_28 : decode cX6_isLowest 28 = .ok (.iload 4, 2) := by decide +kernel
theorem dX6_isLowest_30 : decode cX6_isLowest 30 = .ok (.iload_n 2, 1) := by decide +kernel
theorem dX6_isLowest_31 : decode cX6_isLowest 31 = .ok (.if_icmp .ge 5, 3) := by decide +kernel
theorem dX6_isLowest_34 : decode cX6_isLowest 34 = .ok (.iconst 0, 1) := by decide +kernel
theorem dX6_isLowest_35 : decode cX6_isLowest 35 = .ok (.ireturn, 1) := by decide +kernel
theorem dX6_isLowest_36 : decode cX6_isLowest 36 = .ok (.iinc 5 1, 3) := by decide +kernel
theorem dX6_isLowest_39 : decode cX6_isLowest 39 = .ok (.goto (-26), 3) := by decide +kernel
theorem dX6_isLowest_42 : decode cX6_isLowest 42 = .ok (.iload_n 3, 1) := by decide +kernel
theorem dX6_isLowest_43 : decode cX6_isLowest 43 = .ok (.ifCond .le 7, 3) := by decide +kernel
theorem dX6_isLowest_46 : decode cX6_isLowest 46 = .ok (.iconst 1, 1) := by decide +kernel
theorem dX6_isLowest_47 : decode cX6_isLowest 47 = .ok (.goto 4, 3) := by decide +kernel
theorem dX6_isLowest_50 : decode cX6_isLowest 50 = .ok (.iconst 0, 1) := by decide +kernel
theorem dX6_isLowest_51 : decode cX6_isLowest 51 = .ok (.ireturn, 1) := by decide +kernel
theorem dX6_rings_0 : decode cX6_rings 0 = .ok (.aload_n 0, 1) := by decide +kernel
theorem dX6_rings_1 : decode cX6_rings 1 = .ok (.iload_n 1, 1) := by decide +kernel
theorem dX6_rings_2 : decode cX6_rings 2 = .ok (.invokevirtual 145, 3) := by decide +kernel
theorem dX6_rings_5 : decode cX6_rings 5 = .ok (.ifCond .ne 5, 3) := by decide +kernel
theorem dX6_rings_8 : decode cX6_rings 8 = .ok (.iconst (-1), 1) := by decide +kernel
theorem dX6_rings_9 : decode cX6_rings 9 = .ok (.ireturn, 1) := by decide +kernel
theorem dX6_rings_10 : decode cX6_rings 10 = .ok (.iconst 0, 1) := by decide +kernel
theorem dX6_rings_11 : decode cX6_rings 11 = .ok (.istore_n 2, 1) := by decide +kernel
theorem dX6_rings_12 : decode cX6_rings 12 = .ok (.iconst 0, 1) := by decide +kernel
theorem dX6_rings_13 : decode cX6_rings 13 = .ok (.istore_n 3, 1) := by decide +kernel
theorem dX6_rings_14 : decode cX6_rings 14 = .ok (.iload_n 3, 1) := by decide +kernel
theorem dX6_rings_15 : decode cX6_rings 15 = .ok (.bipush 24, 2) := by decide +kernel
theorem dX6_rings_17 : decode cX6_rings 17 = .ok (.if_icmp .ge 40, 3) := by decide +kernel
theorem dX6_rings_20 : decode cX6_rings 20 = .ok (.iload_n 2, 1) := by decide +kernel
theorem dX6_rings_21 : decode cX6_rings 21 = .ok (.aload_n 0, 1) := by decide +kernel
theorem dX6_rings_22 : decode cX6_rings 22 = .ok (.getfield 27, 3) := by decide +kernel
theorem dX6_rings_25 : decode cX6_rings 25 = .ok (.bipush 24, 2) := by decide +kernel
theorem dX6_rings_27 : decode cX6_rings 27 = .ok (.iload_n 1, 1) := by decide +kernel
theorem dX6_rings_28 : decode cX6_rings 28 = .ok (.imul, 1) := by decide +kernel
theorem dX6_rings_29 : decode cX6_rings 29 = .ok (.iload_n 3, 1) := by decide +kernel
theorem dX6_rings_30 : decode cX6_rings 30 = .ok (.iadd, 1) := by decide +kernel
theorem dX6_rings_31 : decode cX6_rings 31 = .ok (.baload, 1) := by decide +kernel
theorem dX6_rings_32 : decode cX6_rings 32 = .ok (.ifCond .eq 16, 3) := by decide +kernel
theorem dX6_rings_35 : decode cX6_rings 35 = .ok (.aload_n 0, 1) := by decide +kernel
theorem dX6_rings_36 : decode cX6_rings 36 = .ok (.iload_n 1, 1) := by decide +kernel
theorem dX6_rings_37 : decode cX6_rings 37 = .ok (.iload_n 3, 1) := by decide +kernel
theorem dX6_rings_38 : decode cX6_rings 38 = .ok (.invokevirtual 162, 3) := by decide +kernel
theorem dX6_rings_41 : decode cX6_rings 41 = .ok (.ifCond .eq 7, 3) := by decide +kernel
theorem dX6_rings_44 : decode cX6_rings 44 = .ok (.iconst 1, 1) := by decide +kernel
theorem dX6_rings_45 : decode cX6_rings 45 = .ok (.goto 4, 3) := by decide +kernel
theorem dX6_rings_48 : decode cX6_rings 48 = .ok (.iconst 0, 1) := by decide +kernel
theorem dX6_rings_49 : decode cX6_rings 49 = .ok (.iadd, 1) := by decide +kernel
theorem dX6_rings_50 : decode cX6_rings 50 = .ok (.istore_n 2, 1) := by decide +kernel
theorem dX6_rings_51 : decode cX6_rings 51 = .ok (.iinc 3 1, 3) := by decide +kernel
theorem dX6_rings_54 : decode cX6_rings 54 = .ok (.goto (-40), 3) := by decide +kernel
theorem dX6_rings_57 : decode cX6_rings 57 = .ok (.iload_n 2, 1) := by decide +kernel
theorem dX6_rings_58 : decode cX6_rings 58 = .ok (.ireturn, 1) := by decide +kernel
theorem dX6_ring_0 : decode cX6_ring 0 = .ok (.aload_n 0, 1) := by decide +kernel
theorem dX6_ring_1 : decode cX6_ring 1 = .ok (.iload_n 1, 1) := by decide +kernel
theorem dX6_ring_2 : decode cX6_ring 2 = .ok (.invokevirtual 145, 3) := by decide +kernel
theorem dX6_ring_5 : decode cX6_ring 5 = .ok (.ifCond .eq 11, 3) := by decide +kernel
theorem dX6_ring_8 : decode cX6_ring 8 = .ok (.iload_n 2, 1) := by decide +kernel
theorem dX6_ring_9 : decode cX6_ring 9 = .ok (.ifCond .lt 7, 3) := by decide +kernel
theorem dX6_ring_12 : decode cX6_ring 12 = .ok (.iload_n 3, 1) := by decide +kernel
theorem dX6_ring_13 : decode cX6_ring 13 = .ok (.ifCond .ge 5, 3) := by decide +kernel
theorem dX6_ring_16 : decode cX6_ring 16 = .ok (.iconst (-1), 1) := by decide +kernel
theorem dX6_ring_17 : decode cX6_ring 17 = .ok (.ireturn, 1) := by decide +kernel
theorem dX6_ring_18 : decode cX6_ring 18 = .ok (.iconst 0, 1) := by decide +kernel
theorem dX6_ring_19 : decode cX6_ring 19 = .ok (.istore 4, 2) := by decide +kernel
theorem dX6_ring_21 : decode cX6_ring 21 = .ok (.iconst 0, 1) := by decide +kernel
theorem dX6_ring_22 : decode cX6_ring 22 = .ok (.istore 5, 2) := by decide +kernel
theorem dX6_ring_24 : decode cX6_ring 24 = .ok (.iload 5, 2) := by decide +kernel
theorem dX6_ring_26 : decode cX6_ring 26 = .ok (.bipush 24, 2) := by decide +kernel
theorem dX6_ring_28 : decode cX6_ring 28 = .ok (.if_icmp .ge 70, 3) := by decide +kernel
theorem dX6_ring_31 : decode cX6_ring 31 = .ok (.aload_n 0, 1) := by decide +kernel
theorem dX6_ring_32 : decode cX6_ring 32 = .ok (.getfield 27, 3) := by decide +kernel
theorem dX6_ring_35 : decode cX6_ring 35 = .ok (.bipush 24, 2) := by decide +kernel
theorem dX6_ring_37 : decode cX6_ring 37 = .ok (.iload_n 1, 1) := by decide +kernel
theorem dX6_ring_38 : decode cX6_ring 38 = .ok (.imul, 1) := by decide +kernel
theorem dX6_ring_39 : decode cX6_ring 39 = .ok (.iload 5, 2) := by decide +kernel
theorem dX6_ring_41 : decode cX6_ring 41 = .ok (.iadd, 1) := by decide +kernel
theorem dX6_ring_42 : decode cX6_ring 42 = .ok (.baload, 1) := by decide +kernel
theorem dX6_ring_43 : decode cX6_ring 43 = .ok (.ifCond .eq 49, 3) := by decide +kernel
theorem dX6_ring_46 : decode cX6_ring 46 = .ok (.aload_n 0, 1) := by decide +kernel
theorem dX6_ring_47 : decode cX6_ring 47 = .ok (.iload_n 1, 1) := by decide +kernel
theorem dX6_ring_48 : decode cX6_ring 48 = .ok (.iload 5, 2) := by decide +kernel
theorem dX6_ring_50 : decode cX6_ring 50 = .ok (.invokevirtual 162, 3) := by decide +kernel
theorem dX6_ring_53 : decode cX6_ring 53 = .ok (.ifCond .ne 6, 3) := by decide +kernel
theorem dX6_ring_56 : decode cX6_ring 56 = .ok (.goto 36, 3) := by decide +kernel
theorem dX6_ring_59 : decode cX6_ring 59 = .ok (.iload 4, 2) := by decide +kernel
theorem dX6_ring_61 : decode cX6_ring 61 = .ok (.iload_n 2, 1) := by decide +kernel
theorem dX6_ring_62 : decode cX6_ring 62 = .ok (.if_icmp .ne 27, 3) := by decide +kernel
theorem dX6_ring_65 : decode cX6_ring 65 = .ok (.iload_n 3, 1) := by decide +kernel
theorem dX6_ring_66 : decode cX6_ring 66 = .ok (.aload_n 0, 1) := by decide +kernel
theorem dX6_ring_67 : decode cX6_ring 67 = .ok (.iload_n 1, 1) := by decide +kernel
theorem dX6_ring_68 : decode cX6_ring 68 = .ok (.iload 5, 2) := by decide +kernel
theorem dX6_ring_70 : decode cX6_ring 70 = .ok (.invokevirtual 159, 3) := by decide +kernel
theorem dX6_ring_73 : decode cX6_ring 73 = .ok (.if_icmp .ge 14, 3) := by decide +kernel
theorem dX6_ring_76 : decode cX6_ring 76 = .ok (.aload_n 0, 1) := by decide +kernel
theorem dX6_ring_77 : decode cX6_ring 77 = .ok (.iload_n 1, 1) := by decide +kernel
theorem dX6_ring_78 : decode cX6_ring 78 = .ok (.iload 5, 2) := by decide +kernel
theorem dX6_ring_80 : decode cX6_ring 80 = .ok (.iload_n 3, 1) := by decide +kernel
theorem dX6_ring_81 : decode cX6_ring 81 = .ok (.invokevirtual 165, 3) := by decide +kernel
theorem dX6_ring_84 : decode cX6_ring 84 = .ok (.goto 4, 3) := by decide +kernel
theorem dX6_ring_87 : decode cX6_ring 87 = .ok (.iconst (-1), 1) := by decide +kernel
theorem dX6_ring_88 : decode cX6_ring 88 = .ok (.ireturn, 1) := by decide +kernel
theorem dX6_ring_89 : decode cX6_ring 89 = .ok (.iinc 4 1, 3) := by decide +kernel
theorem dX6_ring_92 : decode cX6_ring 92 = .ok (.iinc 5 1, 3) := by decide +kernel
theorem dX6_ring_95 : decode cX6_ring 95 = .ok (.goto (-71), 3) := by decide +kernel
theorem dX6_ring_98 : decode cX6_ring 98 = .ok (.iconst (-1), 1) := by decide +kernel
theorem dX6_ring_99 : decode cX6_ring 99 = .ok (.ireturn, 1) := by decide +kernel
theorem dX6_foot_0 : decode cX6_foot 0 = .ok (.aload_n 0, 1) := by decide +kernel
theorem dX6_foot_1 : decode cX6_foot 1 = .ok (.iload_n 1, 1) := by decide +kernel
theorem dX6_foot_2 : decode cX6_foot 2 = .ok (.iload_n 2, 1) := by decide +kernel
theorem dX6_foot_3 : decode cX6_foot 3 = .ok (.invokevirtual 149, 3) := by decide +kernel
theorem dX6_foot_6 : decode cX6_foot 6 = .ok (.ifCond .eq 30, 3) := by decide +kernel
theorem dX6_foot_9 : decode cX6_foot 9 = .ok (.aload_n 0, 1) := by decide +kernel
theorem dX6_foot_10 : decode cX6_foot 10 = .ok (.getfield 40, 3) := by decide +kernel
theorem dX6_foot_13 : decode cX6_foot 13 = .ok (.bipush 24, 2) := by decide +kernel
theorem dX6_foot_15 : decode cX6_foot 15 = .ok (.iload_n 1, 1) := by decide +kernel
theorem dX6_foot_16 : decode cX6_foot 16 = .ok (.imul, 1) := by decide +kernel
theorem dX6_foot_17 : decode cX6_foot 17 = .ok (.iload_n 2, 1) := by decide +kernel
theorem dX6_foot_18 : decode cX6_foot 18 = .ok (.iadd, 1) := by decide +kernel
theorem dX6_foot_19 : decode cX6_foot 19 = .ok (.iaload, 1) := by decide +kernel
theorem dX6_foot_20 : decode cX6_foot 20 = .ok (.iconst (-1), 1) := by decide +kernel
theorem dX6_foot_21 : decode cX6_foot 21 = .ok (.if_icmp .eq 15, 3) := by decide +kernel
theorem dX6_foot_24 : decode cX6_foot 24 = .ok (.aload_n 0, 1) := by decide +kernel
theorem dX6_foot_25 : decode cX6_foot 25 = .ok (.iload_n 1, 1) := by decide +kernel
theorem dX6_foot_26 : decode cX6_foot 26 = .ok (.iload_n 2, 1) := by decide +kernel
theorem dX6_foot_27 : decode cX6_foot 27 = .ok (.bipush 24, 2) := by decide +kernel
theorem dX6_foot_29 : decode cX6_foot 29 = .ok (.invokevirtual 165, 3) := by decide +kernel
theorem dX6_foot_32 : decode cX6_foot 32 = .ok (.iconst (-1), 1) := by decide +kernel
theorem dX6_foot_33 : decode cX6_foot 33 = .ok (.if_icmp .eq 5, 3) := by decide +kernel
theorem dX6_foot_36 : decode cX6_foot 36 = .ok (.iconst (-1), 1) := by decide +kernel
theorem dX6_foot_37 : decode cX6_foot 37 = .ok (.ireturn, 1) := by decide +kernel
theorem dX6_foot_38 : decode cX6_foot 38 = .ok (.iload_n 2, 1) := by decide +kernel
theorem dX6_foot_39 : decode cX6_foot 39 = .ok (.istore_n 3, 1) := by decide +kernel
theorem dX6_foot_40 : decode cX6_foot 40 = .ok (.aload_n 0, 1) := by decide +kernel
theorem dX6_foot_41 : decode cX6_foot 41 = .ok (.iload_n 1, 1) := by decide +kernel
theorem dX6_foot_42 : decode cX6_foot 42 = .ok (.iload_n 3, 1) := by decide +kernel
theorem dX6_foot_43 : decode cX6_foot 43 = .ok (.invokevirtual 156, 3) := by decide +kernel
theorem dX6_foot_46 : decode cX6_foot 46 = .ok (.iconst (-1), 1) := by decide +kernel
theorem dX6_foot_47 : decode cX6_foot 47 = .ok (.if_icmp .eq 13, 3) := by decide +kernel
theorem dX6_foot_50 : decode cX6_foot 50 = .ok (.aload_n 0, 1) := by decide +kernel
theorem dX6_foot_51 : decode cX6_foot 51 = .ok (.iload_n 1, 1) := by decide +kernel
theorem dX6_foot_52 : decode cX6_foot 52 = .ok (.iload_n 3, 1) := by decide +kernel
theorem dX6_foot_53 : decode cX6_foot 53 = .ok (.invokevirtual 156, 3) := by decide +kernel
theorem dX6_foot_56 : decode cX6_foot 56 = .ok (.istore_n 3, 1) := by decide +kernel
theorem dX6_foot_57 : decode cX6_foot 57 = .ok (.goto (-17), 3) := by decide +kernel
theorem dX6_foot_60 : decode cX6_foot 60 = .ok (.iload_n 3, 1) := by decide +kernel
theorem dX6_foot_61 : decode cX6_foot 61 = .ok (.ireturn, 1) := by decide +kernel
theorem dX6_comes_0 : decode cX6_comes 0 = .ok (.iload_n 2, 1) := by decide +kernel
theorem dX6_comes_1 : decode cX6_comes 1 = .ok (.istore 4, 2) := by decide +kernel
theorem dX6_comes_3 : decode cX6_comes 3 = .ok (.iconst 0, 1) := by decide +kernel
theorem dX6_comes_4 : decode cX6_comes 4 = .ok (.istore 5, 2) := by decide +kernel
theorem dX6_comes_6 : decode cX6_comes 6 = .ok (.iload 5, 2) := by decide +kernel
theorem dX6_comes_8 : decode cX6_comes 8 = .ok (.bipush 24, 2) := by decide +kernel
theorem dX6_comes_10 : decode cX6_comes 10 = .ok (.if_icmp .gt 32, 3) := by decide +kernel
theorem dX6_comes_13 : decode cX6_comes 13 = .ok (.iload 4, 2) := by decide +kernel
theorem dX6_comes_15 : decode cX6_comes 15 = .ok (.iconst (-1), 1) := by decide +kernel
theorem dX6_comes_16 : decode cX6_comes 16 = .ok (.if_icmp .eq 26, 3) := by decide +kernel
theorem dX6_comes_19 : decode cX6_comes 19 = .ok (.iload 4, 2) := by decide +kernel
theorem dX6_comes_21 : decode cX6_comes 21 = .ok (.iload_n 3, 1) := by decide +kernel
theorem dX6_comes_22 : decode cX6_comes 22 = .ok (.if_icmp .ne 5, 3) := by decide +kernel
theorem dX6_comes_25 : decode cX6_comes 25 = .ok (.iconst 1, 1) := by decide +kernel
theorem dX6_comes_26 : decode cX6_comes 26 = .ok (.ireturn, 1) := by decide +kernel
theorem dX6_comes_27 : decode cX6_comes 27 = .ok (.aload_n 0, 1) := by decide +kernel
theorem dX6_comes_28 : decode cX6_comes 28 = .ok (.iload_n 1, 1) := by decide +kernel
theorem dX6_comes_29 : decode cX6_comes 29 = .ok (.iload 4, 2) := by decide +kernel
theorem dX6_comes_31 : decode cX6_comes 31 = .ok (.invokevirtual 156, 3) := by decide +kernel
theorem dX6_comes_34 : decode cX6_comes 34 = .ok (.istore 4, 2) := by decide +kernel
theorem dX6_comes_36 : decode cX6_comes 36 = .ok (.iinc 5 1, 3) := by decide +kernel
theorem dX6_comes_39 : decode cX6_comes 39 = .ok (.goto (-33), 3) := by decide +kernel
theorem dX6_comes_42 : decode cX6_comes 42 = .ok (.iconst 0, 1) := by decide +kernel
theorem dX6_comes_43 : decode cX6_comes 43 = .ok (.ireturn, 1) := by decide +kernel
theorem dX6_through_0 : decode cX6_through 0 = .ok (.aload_n 0, 1) := by decide +kernel
theorem dX6_through_1 : decode cX6_through 1 = .ok (.iload_n 1, 1) := by decide +kernel
theorem dX6_through_2 : decode cX6_through 2 = .ok (.iload_n 2, 1) := by decide +kernel
theorem dX6_through_3 : decode cX6_through 3 = .ok (.invokevirtual 149, 3) := by decide +kernel
theorem dX6_through_6 : decode cX6_through 6 = .ok (.ifCond .ne 5, 3) := by decide +kernel
theorem dX6_through_9 : decode cX6_through 9 = .ok (.iconst (-1), 1) := by decide +kernel
theorem dX6_through_10 : decode cX6_through 10 = .ok (.ireturn, 1) := by decide +kernel
theorem dX6_through_11 : decode cX6_through 11 = .ok (.iconst 0, 1) := by decide +kernel
theorem dX6_through_12 : decode cX6_through 12 = .ok (.istore_n 3, 1) := by decide +kernel
theorem dX6_through_13 : decode cX6_through 13 = .ok (.iconst 0, 1) := by decide +kernel
theorem dX6_through_14 : decode cX6_through 14 = .ok (.istore 4, 2) := by decide +kernel
theorem dX6_through_16 : decode cX6_through 16 = .ok (.iload 4, 2) := by decide +kernel
theorem dX6_through_18 : decode cX6_through 18 = .ok (.bipush 24, 2) := by decide +kernel
theorem dX6_through_20 : decode cX6_through 20 = .ok (.if_icmp .ge 49, 3) := by decide +kernel
theorem dX6_through_23 : decode cX6_through 23 = .ok (.iload_n 3, 1) := by decide +kernel
theorem dX6_through_24 : decode cX6_through 24 = .ok (.iload 4, 2) := by decide +kernel
theorem dX6_through_26 : decode cX6_through 26 = .ok (.iload_n 2, 1) := by decide +kernel
theorem dX6_through_27 : decode cX6_through 27 = .ok (.if_icmp .eq 33, 3) := by decide +kernel
theorem dX6_through_30 : decode cX6_through 30 = .ok (.aload_n 0, 1) := by decide +kernel
theorem dX6_through_31 : decode cX6_through 31 = .ok (.getfield 27, 3) := by decide +kernel
theorem dX6_through_34 : decode cX6_through 34 = .ok (.bipush 24, 2) := by decide +kernel
theorem dX6_through_36 : decode cX6_through 36 = .ok (.iload_n 1, 1) := by decide +kernel
theorem dX6_through_37 : decode cX6_through 37 = .ok (.imul, 1) := by decide +kernel
theorem dX6_through_38 : decode cX6_through 38 = .ok (.iload 4, 2) := by decide +kernel
theorem dX6_through_40 : decode cX6_through 40 = .ok (.iadd, 1) := by decide +kernel
theorem dX6_through_41 : decode cX6_through 41 = .ok (.baload, 1) := by decide +kernel
theorem dX6_through_42 : decode cX6_through 42 = .ok (.ifCond .eq 18, 3) := by decide +kernel
theorem dX6_through_45 : decode cX6_through 45 = .ok (.aload_n 0, 1) := by decide +kernel
theorem dX6_through_46 : decode cX6_through 46 = .ok (.iload_n 1, 1) := by decide +kernel
theorem dX6_through_47 : decode cX6_through 47 = .ok (.iload 4, 2) := by decide +kernel
theorem dX6_through_49 : decode cX6_through 49 = .ok (.iload_n 2, 1) := by decide +kernel
theorem dX6_through_50 : decode cX6_through 50 = .ok (.invokevirtual 169, 3) := by decide +kernel
theorem dX6_through_53 : decode cX6_through 53 = .ok (.ifCond .eq 7, 3) := by decide +kernel
theorem dX6_through_56 : decode cX6_through 56 = .ok (.iconst 1, 1) := by decide +kernel
theorem dX6_through_57 : decode cX6_through 57 = .ok (.goto 4, 3) := by decide +kernel
theorem dX6_through_60 : decode cX6_through 60 = .ok (.iconst 0, 1) := by decide +kernel
theorem dX6_through_61 : decode cX6_through 61 = .ok (.iadd, 1) := by decide +kernel
theorem dX6_through_62 : decode cX6_through 62 = .ok (.istore_n 3, 1) := by decide +kernel
theorem dX6_through_63 : decode cX6_through 63 = .ok (.iinc 4 1, 3) := by decide +kernel
theorem dX6_through_66 : decode cX6_through 66 = .ok (.goto (-50), 3) := by decide +kernel
theorem dX6_through_69 : decode cX6_through 69 = .ok (.iload_n 3, 1) := by decide +kernel
theorem dX6_through_70 : decode cX6_through 70 = .ok (.ireturn, 1) := by decide +kernel
theorem dX6_weightOf_0 : decode cX6_weightOf 0 = .ok (.iconst 0, 1) := by decide +kernel
theorem dX6_weightOf_1 : decode cX6_weightOf 1 = .ok (.istore_n 3, 1) := by decide +kernel
theorem dX6_weightOf_2 : decode cX6_weightOf 2 = .ok (.iconst 0, 1) := by decide +kernel
theorem dX6_weightOf_3 : decode cX6_weightOf 3 = .ok (.istore 4, 2) := by decide +kernel
theorem dX6_weightOf_5 : decode cX6_weightOf 5 = .ok (.iload 4, 2) := by decide +kernel
theorem dX6_weightOf_7 : decode cX6_weightOf 7 = .ok (.bipush 24, 2) := by decide +kernel
theorem dX6_weightOf_9 : decode cX6_weightOf 9 = .ok (.if_icmp .ge 106, 3) := by decide +kernel
theorem dX6_weightOf_12 : decode cX6_weightOf 12 = .ok (.aload_n 0, 1) := by decide +kernel
theorem dX6_weightOf_13 : decode cX6_weightOf 13 = .ok (.getfield 27, 3) := by decide +kernel
theorem dX6_weightOf_16 : decode cX6_weightOf 16 = .ok (.bipush 24, 2) := by decide +kernel
theorem dX6_weightOf_18 : decode cX6_weightOf 18 = .ok (.iload_n 1, 1) := by decide +kernel
theorem dX6_weightOf_19 : decode cX6_weightOf 19 = .ok (.imul, 1) := by decide +kernel
theorem dX6_weightOf_20 : decode cX6_weightOf 20 = .ok (.iload 4, 2) := by decide +kernel
theorem dX6_weightOf_22 : decode cX6_weightOf 22 = .ok (.iadd, 1) := by decide +kernel
theorem dX6_weightOf_23 : decode cX6_weightOf 23 = .ok (.baload, 1) := by decide +kernel
theorem dX6_weightOf_24 : decode cX6_weightOf 24 = .ok (.ifCond .ne 6, 3) := by decide +kernel
theorem dX6_weightOf_27 : decode cX6_weightOf 27 = .ok (.goto 82, 3) := by decide +kernel
theorem dX6_weightOf_30 : decode cX6_weightOf 30 = .ok (.iconst 0, 1) := by decide +kernel
theorem dX6_weightOf_31 : decode cX6_weightOf 31 = .ok (.istore 5, 2) := by decide +kernel
theorem dX6_weightOf_33 : decode cX6_weightOf 33 = .ok (.iload 4, 2) := by decide +kernel
theorem dX6_weightOf_35 : decode cX6_weightOf 35 = .ok (.istore 6, 2) := by decide +kernel
theorem dX6_weightOf_37 : decode cX6_weightOf 37 = .ok (.iconst 0, 1) := by decide +kernel
theorem dX6_weightOf_38 : decode cX6_weightOf 38 = .ok (.istore 7, 2) := by decide +kernel
theorem dX6_weightOf_40 : decode cX6_weightOf 40 = .ok (.iload 7, 2) := by decide +kernel
theorem dX6_weightOf_42 : decode cX6_weightOf 42 = .ok (.bipush 24, 2) := by decide +kernel
theorem dX6_weightOf_44 : decode cX6_weightOf 44 = .ok (.if_icmp .gt 52, 3) := by decide +kernel
theorem dX6_weightOf_47 : decode cX6_weightOf 47 = .ok (.iload 6, 2) := by decide +kernel
theorem dX6_weightOf_49 : decode cX6_weightOf 49 = .ok (.iconst (-1), 1) := by decide +kernel
theorem dX6_weightOf_50 : decode cX6_weightOf 50 = .ok (.if_icmp .eq 46, 3) := by decide +kernel
theorem dX6_weightOf_53 : decode cX6_weightOf 53 = .ok (.iload 5, 2) := by decide +kernel
theorem dX6_weightOf_55 : decode cX6_weightOf 55 = .ok (.ifCond .ne 19, 3) := by decide +kernel
theorem dX6_weightOf_58 : decode cX6_weightOf 58 = .ok (.aload_n 0, 1) := by decide +kernel
theorem dX6_weightOf_59 : decode cX6_weightOf 59 = .ok (.getfield 40, 3) := by decide +kernel
theorem dX6_weightOf_62 : decode cX6_weightOf 62 = .ok (.bipush 24, 2) := by decide +kernel
theorem dX6_weightOf_64 : decode cX6_weightOf 64 = .ok (.iload_n 1, 1) := by decide +kernel
theorem dX6_weightOf_65 : decode cX6_weightOf 65 = .ok (.imul, 1) := by decide +kernel
theorem dX6_weightOf_66 : decode cX6_weightOf 66 = .ok (.iload 6, 2) := by decide +kernel
theorem dX6_weightOf_68 : decode cX6_weightOf 68 = .ok (.iadd, 1) := by decide +kernel
theorem dX6_weightOf_69 : decode cX6_weightOf 69 = .ok (.iaload, 1) := by decide +kernel
theorem dX6_weightOf_70 : decode cX6_weightOf 70 = .ok (.iload_n 2, 1) := by decide +kernel
theorem dX6_weightOf_71 : decode cX6_weightOf 71 = .ok (.if_icmp .ne 7, 3) := by decide +kernel
theorem dX6_weightOf_74 : decode cX6_weightOf 74 = .ok (.iconst 1, 1) := by decide +kernel
theorem dX6_weightOf_75 : decode cX6_weightOf 75 = .ok (.goto 4, 3) := by decide +kernel
theorem dX6_weightOf_78 : decode cX6_weightOf 78 = .ok (.iconst 0, 1) := by decide +kernel
theorem dX6_weightOf_79 : decode cX6_weightOf 79 = .ok (.istore 5, 2) := by decide +kernel
theorem dX6_weightOf_81 : decode cX6_weightOf 81 = .ok (.aload_n 0, 1) := by decide +kernel
theorem dX6_weightOf_82 : decode cX6_weightOf 82 = .ok (.iload_n 1, 1) := by decide +kernel
theorem dX6_weightOf_83 : decode cX6_weightOf 83 = .ok (.iload 6, 2) := by decide +kernel
theorem dX6_weightOf_85 : decode cX6_weightOf 85 = .ok (.invokevirtual 156, 3) := by decide +kernel
theorem dX6_weightOf_88 : decode cX6_weightOf 88 = .ok (.istore 6, 2) := by decide +kernel
theorem dX6_weightOf_90 : decode cX6_weightOf 90 = .ok (.iinc 7 1, 3) := by decide +kernel
theorem dX6_weightOf_93 : decode cX6_weightOf 93 = .ok (.goto (-53), 3) := by decide +kernel
theorem dX6_weightOf_96 : decode cX6_weightOf 96 = .ok (.iload_n 3, 1) := by decide +kernel
theorem dX6_weightOf_97 : decode cX6_weightOf 97 = .ok (.iload 5, 2) := by decide +kernel
theorem dX6_weightOf_99 : decode cX6_weightOf 99 = .ok (.ifCond .eq 7, 3) := by decide +kernel
theorem dX6_weightOf_102 : decode cX6_weightOf 102 = .ok (.iconst 1, 1) := by decide +kernel
theorem dX6_weightOf_103 : decode cX6_weightOf 103 = .ok (.goto 4, 3) := by decide +kernel
theorem dX6_weightOf_106 : decode cX6_weightOf 106 = .ok (.iconst 0, 1) := by decide +kernel
theorem dX6_weightOf_107 : decode cX6_weightOf 107 = .ok (.iadd, 1) := by decide +kernel
theorem dX6_weightOf_108 : decode cX6_weightOf 108 = .ok (.istore_n 3, 1) := by decide +kernel
theorem dX6_weightOf_109 : decode cX6_weightOf 109 = .ok (.iinc 4 1, 3) := by decide +kernel
theorem dX6_weightOf_112 : decode cX6_weightOf 112 = .ok (.goto (-107), 3) := by decide +kernel
theorem dX6_weightOf_115 : decode cX6_weightOf 115 = .ok (.iload_n 3, 1) := by decide +kernel
theorem dX6_weightOf_116 : decode cX6_weightOf 116 = .ok (.ireturn, 1) := by decide +kernel
theorem dX6_weight_0 : decode cX6_weight 0 = .ok (.aload_n 0, 1) := by decide +kernel
theorem dX6_weight_1 : decode cX6_weight 1 = .ok (.iload_n 1, 1) := by decide +kernel
theorem dX6_weight_2 : decode cX6_weight 2 = .ok (.invokevirtual 145, 3) := by decide +kernel
theorem dX6_weight_5 : decode cX6_weight 5 = .ok (.ifCond .eq 22, 3) := by decide +kernel
theorem dX6_weight_8 : decode cX6_weight 8 = .ok (.iload_n 2, 1) := by decide +kernel
theorem dX6_weight_9 : decode cX6_weight 9 = .ok (.iconst 0, 1) := by decide +kernel
theorem dX6_weight_10 : decode cX6_weight 10 = .ok (.bipush 15, 2) := by decide +kernel
theorem dX6_weight_12 : decode cX6_weight 12 = .ok (.invokestatic 84, 3) := by decide +kernel
theorem dX6_weight_15 : decode cX6_weight 15 = .ok (.ifCond .eq 12, 3) := by decide +kernel
theorem dX6_weight_18 : decode cX6_weight 18 = .ok (.aload_n 0, 1) := by decide +kernel
theorem dX6_weight_19 : decode cX6_weight 19 = .ok (.iload_n 1, 1) := by decide +kernel
theorem dX6_weight_20 : decode cX6_weight 20 = .ok (.iload_n 2, 1) := by decide +kernel
theorem dX6_weight_21 : decode cX6_weight 21 = .ok (.invokevirtual 172, 3) := by decide +kernel
theorem dX6_weight_24 : decode cX6_weight 24 = .ok (.goto 4, 3) := by decide +kernel
theorem dX6_weight_27 : decode cX6_weight 27 = .ok (.iconst (-1), 1) := by decide +kernel
theorem dX6_weight_28 : decode cX6_weight 28 = .ok (.ireturn, 1) := by decide +kernel
theorem dX6_guilty_0 : decode cX6_guilty 0 = .ok (.aload_n 0, 1) := by decide +kernel
theorem dX6_guilty_1 : decode cX6_guilty 1 = .ok (.iload_n 1, 1) := by decide +kernel
theorem dX6_guilty_2 : decode cX6_guilty 2 = .ok (.invokevirtual 145, 3) := by decide +kernel
theorem dX6_guilty_5 : decode cX6_guilty 5 = .ok (.ifCond .ne 5, 3) := by decide +kernel
theorem dX6_guilty_8 : decode cX6_guilty 8 = .ok (.iconst (-1), 1) := by decide +kernel
theorem dX6_guilty_9 : decode cX6_guilty 9 = .ok (.ireturn, 1) := by decide +kernel
theorem dX6_guilty_10 : decode cX6_guilty 10 = .ok (.iconst (-1), 1) := by decide +kernel
theorem dX6_guilty_11 : decode cX6_guilty 11 = .ok (.istore_n 2, 1) := by decide +kernel
theorem dX6_guilty_12 : decode cX6_guilty 12 = .ok (.iconst 0, 1) := by decide +kernel
theorem dX6_guilty_13 : decode cX6_guilty 13 = .ok (.istore_n 3, 1) := by decide +kernel
theorem dX6_guilty_14 : decode cX6_guilty 14 = .ok (.iconst 0, 1) := by decide +kernel
theorem dX6_guilty_15 : decode cX6_guilty 15 = .ok (.istore 4, 2) := by decide +kernel
theorem dX6_guilty_17 : decode cX6_guilty 17 = .ok (.iload 4, 2) := by decide +kernel
theorem dX6_guilty_19 : decode cX6_guilty 19 = .ok (.bipush 16, 2) := by decide +kernel
theorem dX6_guilty_21 : decode cX6_guilty 21 = .ok (.if_icmp .ge 33, 3) := by decide +kernel
theorem dX6_guilty_24 : decode cX6_guilty 24 = .ok (.aload_n 0, 1) := by decide +kernel
theorem dX6_guilty_25 : decode cX6_guilty 25 = .ok (.iload_n 1, 1) := by decide +kernel
theorem dX6_guilty_26 : decode cX6_guilty 26 = .ok (.iload 4, 2) := by decide +kernel
theorem dX6_guilty_28 : decode cX6_guilty 28 = .ok (.invokevirtual 172, 3) := by decide +kernel
theorem dX6_guilty_31 : decode cX6_guilty 31 = .ok (.istore 5, 2) := by decide +kernel
theorem dX6_guilty_33 : decode cX6_guilty 33 = .ok (.iload 5, 2) := by decide +kernel
theorem dX6_guilty_35 : decode cX6_guilty 35 = .ok (.iload_n 3, 1) := by decide +kernel
theorem dX6_guilty_36 : decode cX6_guilty 36 = .ok (.if_icmp .gt 6, 3) := by decide +kernel
theorem dX6_guilty_39 : decode cX6_guilty 39 = .ok (.goto 9, 3) := by decide +kernel
theorem dX6_guilty_42 : decode cX6_guilty 42 = .ok (.iload 5, 2) := by decide +kernel
theorem dX6_guilty_44 : decode cX6_guilty 44 = .ok (.istore_n 3, 1) := by decide +kernel
theorem dX6_guilty_45 : decode cX6_guilty 45 = .ok (.iload 4, 2) := by decide +kernel
theorem dX6_guilty_47 : decode cX6_guilty 47 = .ok (.istore_n 2, 1) := by decide +kernel
theorem dX6_guilty_48 : decode cX6_guilty 48 = .ok (.iinc 4 1, 3) := by decide +kernel
theorem dX6_guilty_51 : decode cX6_guilty 51 = .ok (.goto (-34), 3) := by decide +kernel
theorem dX6_guilty_54 : decode cX6_guilty 54 = .ok (.iload_n 2, 1) := by decide +kernel
theorem dX6_guilty_55 : decode cX6_guilty 55 = .ok (.ireturn, 1) := by decide +kernel
theorem dX6_areAlike_0 : decode cX6_areAlike 0 = .ok (.aload_n 0, 1) := by decide +kernel
theorem dX6_areAlike_1 : decode cX6_areAlike 1 = .ok (.getfield 31, 3) := by decide +kernel
theorem dX6_areAlike_4 : decode cX6_areAlike 4 = .ok (.iload_n 1, 1) := by decide +kernel
theorem dX6_areAlike_5 : decode cX6_areAlike 5 = .ok (.iaload, 1) := by decide +kernel
theorem dX6_areAlike_6 : decode cX6_areAlike 6 = .ok (.aload_n 0, 1) := by decide +kernel
theorem dX6_areAlike_7 : decode cX6_areAlike 7 = .ok (.getfield 31, 3) := by decide +kernel
theorem dX6_areAlike_10 : decode cX6_areAlike 10 = .ok (.iload_n 2, 1) := by decide +kernel
theorem dX6_areAlike_11 : decode cX6_areAlike 11 = .ok (.iaload, 1) := by decide +kernel
theorem dX6_areAlike_12 : decode cX6_areAlike 12 = .ok (.if_icmp .ne 63, 3) := by decide +kernel
theorem dX6_areAlike_15 : decode cX6_areAlike 15 = .ok (.aload_n 0, 1) := by decide +kernel
theorem dX6_areAlike_16 : decode cX6_areAlike 16 = .ok (.getfield 34, 3) := by decide +kernel
theorem dX6_areAlike_19 : decode cX6_areAlike 19 = .ok (.iload_n 1, 1) := by decide +kernel
theorem dX6_areAlike_20 : decode cX6_areAlike 20 = .ok (.iaload, 1) := by decide +kernel
theorem dX6_areAlike_21 : decode cX6_areAlike 21 = .ok (.aload_n 0, 1) := by decide +kernel
theorem dX6_areAlike_22 : decode cX6_areAlike 22 = .ok (.getfield 34, 3) := by decide +kernel
theorem dX6_areAlike_25 : decode cX6_areAlike 25 = .ok (.iload_n 2, 1) := by decide +kernel
theorem dX6_areAlike_26 : decode cX6_areAlike 26 = .ok (.iaload, 1) := by decide +kernel
theorem dX6_areAlike_27 : decode cX6_areAlike 27 = .ok (.if_icmp .ne 48, 3) := by decide +kernel
theorem dX6_areAlike_30 : decode cX6_areAlike 30 = .ok (.aload_n 0, 1) := by decide +kernel
theorem dX6_areAlike_31 : decode cX6_areAlike 31 = .ok (.getfield 37, 3) := by decide +kernel
theorem dX6_areAlike_34 : decode cX6_areAlike 34 = .ok (.iload_n 1, 1) := by decide +kernel
theorem dX6_areAlike_35 : decode cX6_areAlike 35 = .ok (.iaload, 1) := by decide +kernel
theorem dX6_areAlike_36 : decode cX6_areAlike 36 = .ok (.aload_n 0, 1) := by decide +kernel
theorem dX6_areAlike_37 : decode cX6_areAlike 37 = .ok (.getfield 37, 3) := by decide +kernel
theorem dX6_areAlike_40 : decode cX6_areAlike 40 = .ok (.iload_n 2, 1) := by decide +kernel
theorem dX6_areAlike_41 : decode cX6_areAlike 41 = .ok (.iaload, 1) := by decide +kernel
theorem dX6_areAlike_42 : decode cX6_areAlike 42 = .ok (.if_icmp .ne 33, 3) := by decide +kernel
theorem dX6_areAlike_45 : decode cX6_areAlike 45 = .ok (.aload_n 0, 1) := by decide +kernel
theorem dX6_areAlike_46 : decode cX6_areAlike 46 = .ok (.getfield 40, 3) := by decide +kernel
theorem dX6_areAlike_49 : decode cX6_areAlike 49 = .ok (.iload_n 1, 1) := by decide +kernel
theorem dX6_areAlike_50 : decode cX6_areAlike 50 = .ok (.iaload, 1) := by decide +kernel
theorem dX6_areAlike_51 : decode cX6_areAlike 51 = .ok (.aload_n 0, 1) := by decide +kernel
theorem dX6_areAlike_52 : decode cX6_areAlike 52 = .ok (.getfield 40, 3) := by decide +kernel
theorem dX6_areAlike_55 : decode cX6_areAlike 55 = .ok (.iload_n 2, 1) := by decide +kernel
theorem dX6_areAlike_56 : decode cX6_areAlike 56 = .ok (.iaload, 1) := by decide +kernel
theorem dX6_areAlike_57 : decode cX6_areAlike 57 = .ok (.if_icmp .ne 18, 3) := by decide +kernel
theorem dX6_areAlike_60 : decode cX6_areAlike 60 = .ok (.aload_n 0, 1) := by decide +kernel
theorem dX6_areAlike_61 : decode cX6_areAlike 61 = .ok (.getfield 43, 3) := by decide +kernel
theorem dX6_areAlike_64 : decode cX6_areAlike 64 = .ok (.iload_n 1, 1) := by decide +kernel
theorem dX6_areAlike_65 : decode cX6_areAlike 65 = .ok (.iaload, 1) := by decide +kernel
theorem dX6_areAlike_66 : decode cX6_areAlike 66 = .ok (.aload_n 0, 1) := by decide +kernel
theorem dX6_areAlike_67 : decode cX6_areAlike 67 = .ok (.getfield 43, 3) := by decide +kernel
theorem dX6_areAlike_70 : decode cX6_areAlike 70 = .ok (.iload_n 2, 1) := by decide +kernel
theorem dX6_areAlike_71 : decode cX6_areAlike 71 = .ok (.iaload, 1) := by decide +kernel
theorem dX6_areAlike_72 : decode cX6_areAlike 72 = .ok (.if_icmp .eq 5, 3) := by decide +kernel
theorem dX6_areAlike_75 : decode cX6_areAlike 75 = .ok (.iconst 0, 1) := by decide +kernel
theorem dX6_areAlike_76 : decode cX6_areAlike 76 = .ok (.ireturn, 1) := by decide +kernel
theorem dX6_areAlike_77 : decode cX6_areAlike 77 = .ok (.iconst 0, 1) := by decide +kernel
theorem dX6_areAlike_78 : decode cX6_areAlike 78 = .ok (.istore_n 3, 1) := by decide +kernel
theorem dX6_areAlike_79 : decode cX6_areAlike 79 = .ok (.iload_n 3, 1) := by decide +kernel
theorem dX6_areAlike_80 : decode cX6_areAlike 80 = .ok (.aload_n 0, 1) := by decide +kernel
theorem dX6_areAlike_81 : decode cX6_areAlike 81 = .ok (.getfield 43, 3) := by decide +kernel
theorem dX6_areAlike_84 : decode cX6_areAlike 84 = .ok (.iload_n 1, 1) := by decide +kernel
theorem dX6_areAlike_85 : decode cX6_areAlike 85 = .ok (.iaload, 1) := by decide +kernel
theorem dX6_areAlike_86 : decode cX6_areAlike 86 = .ok (.if_icmp .ge 36, 3) := by decide +kernel
theorem dX6_areAlike_89 : decode cX6_areAlike 89 = .ok (.aload_n 0, 1) := by decide +kernel
theorem dX6_areAlike_90 : decode cX6_areAlike 90 = .ok (.getfield 46, 3) := by decide +kernel
theorem dX6_areAlike_93 : decode cX6_areAlike 93 = .ok (.bipush 12, 2) := by decide +kernel
theorem dX6_areAlike_95 : decode cX6_areAlike 95 = .ok (.iload_n 1, 1) := by decide +kernel
theorem dX6_areAlike_96 : decode cX6_areAlike 96 = .ok (.imul, 1) := by decide +kernel
theorem dX6_areAlike_97 : decode cX6_areAlike 97 = .ok (.iload_n 3, 1) := by decide +kernel
theorem dX6_areAlike_98 : decode cX6_areAlike 98 = .ok (.iadd, 1) := by decide +kernel
end
section
theorem dX6_areAlike_99 : decode cX6_areAlike 99 = .ok (.baload, 1) := by decide +kernel
theorem dX6_areAlike_100 : decode cX6_areAlike 100 = .ok (.aload_n 0, 1) := by decide +kernel
theorem dX6_areAlike_101 : decode cX6_areAlike 101 = .ok (.getfield 46, 3) := by decide +kernel
theorem dX6_areAlike_104 : decode cX6_areAlike 104 = .ok (.bipush 12, 2) := by decide +kernel
theorem dX6_areAlike_106 : decode cX6_areAlike 106 = .ok (.iload_n 2, 1) := by decide +kernel
theorem dX6_areAlike_107 : decode cX6_areAlike 107 = .ok (.imul, 1) := by decide +kernel
theorem dX6_areAlike_108 : decode cX6_areAlike 108 = .ok (.iload_n 3, 1) := by decide +kernel
theorem dX6_areAlike_109 : decode cX6_areAlike 109 = .ok (.iadd, 1) := by decide +kernel
theorem dX6_areAlike_110 : decode cX6_areAlike 110 = .ok (.baload, 1) := by decide +kernel
theorem dX6_areAlike_111 : decode cX6_areAlike 111 = .ok (.if_icmp .eq 5, 3) := by decide +kernel
theorem dX6_areAlike_114 : decode cX6_areAlike 114 = .ok (.iconst 0, 1) := by decide +kernel
theorem dX6_areAlike_115 : decode cX6_areAlike 115 = .ok (.ireturn, 1) := by decide +kernel
theorem dX6_areAlike_116 : decode cX6_areAlike 116 = .ok (.iinc 3 1, 3) := by decide +kernel
theorem dX6_areAlike_119 : decode cX6_areAlike 119 = .ok (.goto (-40), 3) := by decide +kernel
theorem dX6_areAlike_122 : decode cX6_areAlike 122 = .ok (.iconst 1, 1) := by decide +kernel
theorem dX6_areAlike_123 : decode cX6_areAlike 123 = .ok (.ireturn, 1) := by decide +kernel
theorem dX6_isStuck_0 : decode cX6_isStuck 0 = .ok (.iconst 0, 1) := by decide +kernel
theorem dX6_isStuck_1 : decode cX6_isStuck 1 = .ok (.istore_n 2, 1) := by decide +kernel
theorem dX6_isStuck_2 : decode cX6_isStuck 2 = .ok (.iconst 0, 1) := by decide +kernel
theorem dX6_isStuck_3 : decode cX6_isStuck 3 = .ok (.istore_n 3, 1) := by decide +kernel
theorem dX6_isStuck_4 : decode cX6_isStuck 4 = .ok (.iconst 0, 1) := by decide +kernel
theorem dX6_isStuck_5 : decode cX6_isStuck 5 = .ok (.istore 4, 2) := by decide +kernel
theorem dX6_isStuck_7 : decode cX6_isStuck 7 = .ok (.iload 4, 2) := by decide +kernel
theorem dX6_isStuck_9 : decode cX6_isStuck 9 = .ok (.aload_n 0, 1) := by decide +kernel
theorem dX6_isStuck_10 : decode cX6_isStuck 10 = .ok (.getfield 136, 3) := by decide +kernel
theorem dX6_isStuck_13 : decode cX6_isStuck 13 = .ok (.if_icmp .ge 53, 3) := by decide +kernel
theorem dX6_isStuck_16 : decode cX6_isStuck 16 = .ok (.bipush 24, 2) := by decide +kernel
theorem dX6_isStuck_18 : decode cX6_isStuck 18 = .ok (.iload 4, 2) := by decide +kernel
theorem dX6_isStuck_20 : decode cX6_isStuck 20 = .ok (.imul, 1) := by decide +kernel
theorem dX6_isStuck_21 : decode cX6_isStuck 21 = .ok (.iload_n 1, 1) := by decide +kernel
theorem dX6_isStuck_22 : decode cX6_isStuck 22 = .ok (.iadd, 1) := by decide +kernel
theorem dX6_isStuck_23 : decode cX6_isStuck 23 = .ok (.istore 5, 2) := by decide +kernel
theorem dX6_isStuck_25 : decode cX6_isStuck 25 = .ok (.aload_n 0, 1) := by decide +kernel
theorem dX6_isStuck_26 : decode cX6_isStuck 26 = .ok (.getfield 27, 3) := by decide +kernel
theorem dX6_isStuck_29 : decode cX6_isStuck 29 = .ok (.iload 5, 2) := by decide +kernel
theorem dX6_isStuck_31 : decode cX6_isStuck 31 = .ok (.baload, 1) := by decide +kernel
theorem dX6_isStuck_32 : decode cX6_isStuck 32 = .ok (.ifCond .ne 6, 3) := by decide +kernel
theorem dX6_isStuck_35 : decode cX6_isStuck 35 = .ok (.goto 25, 3) := by decide +kernel
theorem dX6_isStuck_38 : decode cX6_isStuck 38 = .ok (.iload_n 2, 1) := by decide +kernel
theorem dX6_isStuck_39 : decode cX6_isStuck 39 = .ok (.ifCond .le 15, 3) := by decide +kernel
theorem dX6_isStuck_42 : decode cX6_isStuck 42 = .ok (.aload_n 0, 1) := by decide +kernel
theorem dX6_isStuck_43 : decode cX6_isStuck 43 = .ok (.iload_n 3, 1) := by decide +kernel
theorem dX6_isStuck_44 : decode cX6_isStuck 44 = .ok (.iload 5, 2) := by decide +kernel
theorem dX6_isStuck_46 : decode cX6_isStuck 46 = .ok (.invokevirtual 175, 3) := by decide +kernel
theorem dX6_isStuck_49 : decode cX6_isStuck 49 = .ok (.ifCond .ne 5, 3) := by decide +kernel
theorem dX6_isStuck_52 : decode cX6_isStuck 52 = .ok (.iconst 0, 1) := by decide +kernel
theorem dX6_isStuck_53 : decode cX6_isStuck 53 = .ok (.ireturn, 1) := by decide +kernel
theorem dX6_isStuck_54 : decode cX6_isStuck 54 = .ok (.iload 5, 2) := by decide +kernel
theorem dX6_isStuck_56 : decode cX6_isStuck 56 = .ok (.istore_n 3, 1) := by decide +kernel
theorem dX6_isStuck_57 : decode cX6_isStuck 57 = .ok (.iinc 2 1, 3) := by decide +kernel
theorem dX6_isStuck_60 : decode cX6_isStuck 60 = .ok (.iinc 4 1, 3) := by decide +kernel
theorem dX6_isStuck_63 : decode cX6_isStuck 63 = .ok (.goto (-56), 3) := by decide +kernel
theorem dX6_isStuck_66 : decode cX6_isStuck 66 = .ok (.iload_n 2, 1) := by decide +kernel
theorem dX6_isStuck_67 : decode cX6_isStuck 67 = .ok (.iconst 1, 1) := by decide +kernel
theorem dX6_isStuck_68 : decode cX6_isStuck 68 = .ok (.if_icmp .le 7, 3) := by decide +kernel
theorem dX6_isStuck_71 : decode cX6_isStuck 71 = .ok (.iconst 1, 1) := by decide +kernel
theorem dX6_isStuck_72 : decode cX6_isStuck 72 = .ok (.goto 4, 3) := by decide +kernel
theorem dX6_isStuck_75 : decode cX6_isStuck 75 = .ok (.iconst 0, 1) := by decide +kernel
theorem dX6_isStuck_76 : decode cX6_isStuck 76 = .ok (.ireturn, 1) := by decide +kernel
theorem dX6_stuck_0 : decode cX6_stuck 0 = .ok (.iconst 0, 1) := by decide +kernel
theorem dX6_stuck_1 : decode cX6_stuck 1 = .ok (.istore_n 2, 1) := by decide +kernel
theorem dX6_stuck_2 : decode cX6_stuck 2 = .ok (.iconst 0, 1) := by decide +kernel
theorem dX6_stuck_3 : decode cX6_stuck 3 = .ok (.istore_n 3, 1) := by decide +kernel
theorem dX6_stuck_4 : decode cX6_stuck 4 = .ok (.iload_n 3, 1) := by decide +kernel
theorem dX6_stuck_5 : decode cX6_stuck 5 = .ok (.bipush 24, 2) := by decide +kernel
theorem dX6_stuck_7 : decode cX6_stuck 7 = .ok (.if_icmp .ge 34, 3) := by decide +kernel
theorem dX6_stuck_10 : decode cX6_stuck 10 = .ok (.iload_n 1, 1) := by decide +kernel
theorem dX6_stuck_11 : decode cX6_stuck 11 = .ok (.ifCond .lt 30, 3) := by decide +kernel
theorem dX6_stuck_14 : decode cX6_stuck 14 = .ok (.aload_n 0, 1) := by decide +kernel
theorem dX6_stuck_15 : decode cX6_stuck 15 = .ok (.iload_n 3, 1) := by decide +kernel
theorem dX6_stuck_16 : decode cX6_stuck 16 = .ok (.invokevirtual 178, 3) := by decide +kernel
theorem dX6_stuck_19 : decode cX6_stuck 19 = .ok (.ifCond .ne 6, 3) := by decide +kernel
theorem dX6_stuck_22 : decode cX6_stuck 22 = .ok (.goto 13, 3) := by decide +kernel
theorem dX6_stuck_25 : decode cX6_stuck 25 = .ok (.iload_n 2, 1) := by decide +kernel
theorem dX6_stuck_26 : decode cX6_stuck 26 = .ok (.iload_n 1, 1) := by decide +kernel
theorem dX6_stuck_27 : decode cX6_stuck 27 = .ok (.if_icmp .ne 5, 3) := by decide +kernel
theorem dX6_stuck_30 : decode cX6_stuck 30 = .ok (.iload_n 3, 1) := by decide +kernel
theorem dX6_stuck_31 : decode cX6_stuck 31 = .ok (.ireturn, 1) := by decide +kernel
theorem dX6_stuck_32 : decode cX6_stuck 32 = .ok (.iinc 2 1, 3) := by decide +kernel
theorem dX6_stuck_35 : decode cX6_stuck 35 = .ok (.iinc 3 1, 3) := by decide +kernel
theorem dX6_stuck_38 : decode cX6_stuck 38 = .ok (.goto (-34), 3) := by decide +kernel
theorem dX6_stuck_41 : decode cX6_stuck 41 = .ok (.iconst (-1), 1) := by decide +kernel
theorem dX6_stuck_42 : decode cX6_stuck 42 = .ok (.ireturn, 1) := by decide +kernel
theorem dX6_aheads_0 : decode cX6_aheads 0 = .ok (.iconst 0, 1) := by decide +kernel
theorem dX6_aheads_1 : decode cX6_aheads 1 = .ok (.istore_n 1, 1) := by decide +kernel
theorem dX6_aheads_2 : decode cX6_aheads 2 = .ok (.iload_n 1, 1) := by decide +kernel
theorem dX6_aheads_3 : decode cX6_aheads 3 = .ok (.bipush 16, 2) := by decide +kernel
theorem dX6_aheads_5 : decode cX6_aheads 5 = .ok (.if_icmp .ge 16, 3) := by decide +kernel
theorem dX6_aheads_8 : decode cX6_aheads 8 = .ok (.aload_n 0, 1) := by decide +kernel
theorem dX6_aheads_9 : decode cX6_aheads 9 = .ok (.getfield 52, 3) := by decide +kernel
theorem dX6_aheads_12 : decode cX6_aheads 12 = .ok (.iload_n 1, 1) := by decide +kernel
theorem dX6_aheads_13 : decode cX6_aheads 13 = .ok (.iconst 0, 1) := by decide +kernel
theorem dX6_aheads_14 : decode cX6_aheads 14 = .ok (.iastore, 1) := by decide +kernel
theorem dX6_aheads_15 : decode cX6_aheads 15 = .ok (.iinc 1 1, 3) := by decide +kernel
theorem dX6_aheads_18 : decode cX6_aheads 18 = .ok (.goto (-16), 3) := by decide +kernel
theorem dX6_aheads_21 : decode cX6_aheads 21 = .ok (.iconst 0, 1) := by decide +kernel
theorem dX6_aheads_22 : decode cX6_aheads 22 = .ok (.istore_n 1, 1) := by decide +kernel
theorem dX6_aheads_23 : decode cX6_aheads 23 = .ok (.iload_n 1, 1) := by decide +kernel
theorem dX6_aheads_24 : decode cX6_aheads 24 = .ok (.bipush 24, 2) := by decide +kernel
theorem dX6_aheads_26 : decode cX6_aheads 26 = .ok (.aload_n 0, 1) := by decide +kernel
theorem dX6_aheads_27 : decode cX6_aheads 27 = .ok (.getfield 136, 3) := by decide +kernel
theorem dX6_aheads_30 : decode cX6_aheads 30 = .ok (.imul, 1) := by decide +kernel
theorem dX6_aheads_31 : decode cX6_aheads 31 = .ok (.if_icmp .ge 86, 3) := by decide +kernel
theorem dX6_aheads_34 : decode cX6_aheads 34 = .ok (.aload_n 0, 1) := by decide +kernel
theorem dX6_aheads_35 : decode cX6_aheads 35 = .ok (.getfield 27, 3) := by decide +kernel
theorem dX6_aheads_38 : decode cX6_aheads 38 = .ok (.iload_n 1, 1) := by decide +kernel
theorem dX6_aheads_39 : decode cX6_aheads 39 = .ok (.baload, 1) := by decide +kernel
theorem dX6_aheads_40 : decode cX6_aheads 40 = .ok (.ifCond .eq 71, 3) := by decide +kernel
theorem dX6_aheads_43 : decode cX6_aheads 43 = .ok (.aload_n 0, 1) := by decide +kernel
theorem dX6_aheads_44 : decode cX6_aheads 44 = .ok (.getfield 40, 3) := by decide +kernel
theorem dX6_aheads_47 : decode cX6_aheads 47 = .ok (.iload_n 1, 1) := by decide +kernel
theorem dX6_aheads_48 : decode cX6_aheads 48 = .ok (.iaload, 1) := by decide +kernel
theorem dX6_aheads_49 : decode cX6_aheads 49 = .ok (.iconst (-1), 1) := by decide +kernel
theorem dX6_aheads_50 : decode cX6_aheads 50 = .ok (.if_icmp .ne 6, 3) := by decide +kernel
theorem dX6_aheads_53 : decode cX6_aheads 53 = .ok (.goto 58, 3) := by decide +kernel
theorem dX6_aheads_56 : decode cX6_aheads 56 = .ok (.iconst 0, 1) := by decide +kernel
theorem dX6_aheads_57 : decode cX6_aheads 57 = .ok (.istore_n 2, 1) := by decide +kernel
theorem dX6_aheads_58 : decode cX6_aheads 58 = .ok (.iload_n 2, 1) := by decide +kernel
theorem dX6_aheads_59 : decode cX6_aheads 59 = .ok (.bipush 16, 2) := by decide +kernel
theorem dX6_aheads_61 : decode cX6_aheads 61 = .ok (.if_icmp .ge 50, 3) := by decide +kernel
theorem dX6_aheads_64 : decode cX6_aheads 64 = .ok (.iload_n 2, 1) := by decide +kernel
theorem dX6_aheads_65 : decode cX6_aheads 65 = .ok (.aload_n 0, 1) := by decide +kernel
theorem dX6_aheads_66 : decode cX6_aheads 66 = .ok (.getfield 40, 3) := by decide +kernel
theorem dX6_aheads_69 : decode cX6_aheads 69 = .ok (.iload_n 1, 1) := by decide +kernel
theorem dX6_aheads_70 : decode cX6_aheads 70 = .ok (.iaload, 1) := by decide +kernel
theorem dX6_aheads_71 : decode cX6_aheads 71 = .ok (.if_icmp .eq 34, 3) := by decide +kernel
theorem dX6_aheads_74 : decode cX6_aheads 74 = .ok (.aload_n 0, 1) := by decide +kernel
theorem dX6_aheads_75 : decode cX6_aheads 75 = .ok (.getfield 37, 3) := by decide +kernel
theorem dX6_aheads_78 : decode cX6_aheads 78 = .ok (.iload_n 1, 1) := by decide +kernel
theorem dX6_aheads_79 : decode cX6_aheads 79 = .ok (.iaload, 1) := by decide +kernel
theorem dX6_aheads_80 : decode cX6_aheads 80 = .ok (.iload_n 2, 1) := by decide +kernel
theorem dX6_aheads_81 : decode cX6_aheads 81 = .ok (.ishr, 1) := by decide +kernel
theorem dX6_aheads_82 : decode cX6_aheads 82 = .ok (.iconst 1, 1) := by decide +kernel
theorem dX6_aheads_83 : decode cX6_aheads 83 = .ok (.iand, 1) := by decide +kernel
theorem dX6_aheads_84 : decode cX6_aheads 84 = .ok (.iconst 1, 1) := by decide +kernel
theorem dX6_aheads_85 : decode cX6_aheads 85 = .ok (.if_icmp .ne 20, 3) := by decide +kernel
theorem dX6_aheads_88 : decode cX6_aheads 88 = .ok (.aload_n 0, 1) := by decide +kernel
theorem dX6_aheads_89 : decode cX6_aheads 89 = .ok (.getfield 52, 3) := by decide +kernel
theorem dX6_aheads_92 : decode cX6_aheads 92 = .ok (.iload_n 2, 1) := by decide +kernel
theorem dX6_aheads_93 : decode cX6_aheads 93 = .ok (.dup2, 1) := by decide +kernel
theorem dX6_aheads_94 : decode cX6_aheads 94 = .ok (.iaload, 1) := by decide +kernel
theorem dX6_aheads_95 : decode cX6_aheads 95 = .ok (.iconst 1, 1) := by decide +kernel
theorem dX6_aheads_96 : decode cX6_aheads 96 = .ok (.aload_n 0, 1) := by decide +kernel
theorem dX6_aheads_97 : decode cX6_aheads 97 = .ok (.getfield 40, 3) := by decide +kernel
theorem dX6_aheads_100 : decode cX6_aheads 100 = .ok (.iload_n 1, 1) := by decide +kernel
theorem dX6_aheads_101 : decode cX6_aheads 101 = .ok (.iaload, 1) := by decide +kernel
theorem dX6_aheads_102 : decode cX6_aheads 102 = .ok (.ishl, 1) := by decide +kernel
theorem dX6_aheads_103 : decode cX6_aheads 103 = .ok (.ior, 1) := by decide +kernel
theorem dX6_aheads_104 : decode cX6_aheads 104 = .ok (.iastore, 1) := by decide +kernel
theorem dX6_aheads_105 : decode cX6_aheads 105 = .ok (.iinc 2 1, 3) := by decide +kernel
theorem dX6_aheads_108 : decode cX6_aheads 108 = .ok (.goto (-50), 3) := by decide +kernel
theorem dX6_aheads_111 : decode cX6_aheads 111 = .ok (.iinc 1 1, 3) := by decide +kernel
theorem dX6_aheads_114 : decode cX6_aheads 114 = .ok (.goto (-91), 3) := by decide +kernel
theorem dX6_aheads_117 : decode cX6_aheads 117 = .ok (.return_, 1) := by decide +kernel
theorem dX6_measures_0 : decode cX6_measures 0 = .ok (.iconst 0, 1) := by decide +kernel
theorem dX6_measures_1 : decode cX6_measures 1 = .ok (.istore_n 2, 1) := by decide +kernel
theorem dX6_measures_2 : decode cX6_measures 2 = .ok (.iload_n 2, 1) := by decide +kernel
theorem dX6_measures_3 : decode cX6_measures 3 = .ok (.bipush 16, 2) := by decide +kernel
theorem dX6_measures_5 : decode cX6_measures 5 = .ok (.if_icmp .ge 17, 3) := by decide +kernel
theorem dX6_measures_8 : decode cX6_measures 8 = .ok (.aload_n 0, 1) := by decide +kernel
theorem dX6_measures_9 : decode cX6_measures 9 = .ok (.getfield 55, 3) := by decide +kernel
theorem dX6_measures_12 : decode cX6_measures 12 = .ok (.iload_n 2, 1) := by decide +kernel
theorem dX6_measures_13 : decode cX6_measures 13 = .ok (.bipush 100, 2) := by decide +kernel
theorem dX6_measures_15 : decode cX6_measures 15 = .ok (.iastore, 1) := by decide +kernel
theorem dX6_measures_16 : decode cX6_measures 16 = .ok (.iinc 2 1, 3) := by decide +kernel
theorem dX6_measures_19 : decode cX6_measures 19 = .ok (.goto (-17), 3) := by decide +kernel
theorem dX6_measures_22 : decode cX6_measures 22 = .ok (.bipush 100, 2) := by decide +kernel
theorem dX6_measures_24 : decode cX6_measures 24 = .ok (.istore_n 2, 1) := by decide +kernel
theorem dX6_measures_25 : decode cX6_measures 25 = .ok (.iconst 1, 1) := by decide +kernel
theorem dX6_measures_26 : decode cX6_measures 26 = .ok (.istore_n 3, 1) := by decide +kernel
theorem dX6_measures_27 : decode cX6_measures 27 = .ok (.iload_n 3, 1) := by decide +kernel
theorem dX6_measures_28 : decode cX6_measures 28 = .ok (.bipush 16, 2) := by decide +kernel
theorem dX6_measures_30 : decode cX6_measures 30 = .ok (.if_icmp .gt 146, 3) := by decide +kernel
theorem dX6_measures_33 : decode cX6_measures 33 = .ok (.iload_n 1, 1) := by decide +kernel
theorem dX6_measures_34 : decode cX6_measures 34 = .ok (.iconst 1, 1) := by decide +kernel
theorem dX6_measures_35 : decode cX6_measures 35 = .ok (.iadd, 1) := by decide +kernel
theorem dX6_measures_36 : decode cX6_measures 36 = .ok (.istore 4, 2) := by decide +kernel
theorem dX6_measures_38 : decode cX6_measures 38 = .ok (.iload 4, 2) := by decide +kernel
theorem dX6_measures_40 : decode cX6_measures 40 = .ok (.bipush 16, 2) := by decide +kernel
theorem dX6_measures_42 : decode cX6_measures 42 = .ok (.if_icmp .ge 128, 3) := by decide +kernel
theorem dX6_measures_45 : decode cX6_measures 45 = .ok (.aload_n 0, 1) := by decide +kernel
theorem dX6_measures_46 : decode cX6_measures 46 = .ok (.getfield 55, 3) := by decide +kernel
theorem dX6_measures_49 : decode cX6_measures 49 = .ok (.iload 4, 2) := by decide +kernel
theorem dX6_measures_51 : decode cX6_measures 51 = .ok (.iaload, 1) := by decide +kernel
theorem dX6_measures_52 : decode cX6_measures 52 = .ok (.bipush 100, 2) := by decide +kernel
theorem dX6_measures_54 : decode cX6_measures 54 = .ok (.if_icmp .ge 6, 3) := by decide +kernel
theorem dX6_measures_57 : decode cX6_measures 57 = .ok (.goto 107, 3) := by decide +kernel
theorem dX6_measures_60 : decode cX6_measures 60 = .ok (.iload_n 3, 1) := by decide +kernel
theorem dX6_measures_61 : decode cX6_measures 61 = .ok (.iconst 1, 1) := by decide +kernel
theorem dX6_measures_62 : decode cX6_measures 62 = .ok (.if_icmp .ne 22, 3) := by decide +kernel
theorem dX6_measures_65 : decode cX6_measures 65 = .ok (.aload_n 0, 1) := by decide +kernel
theorem dX6_measures_66 : decode cX6_measures 66 = .ok (.getfield 52, 3) := by decide +kernel
theorem dX6_measures_69 : decode cX6_measures 69 = .ok (.iload 4, 2) := by decide +kernel
theorem dX6_measures_71 : decode cX6_measures 71 = .ok (.iaload, 1) := by decide +kernel
theorem dX6_measures_72 : decode cX6_measures 72 = .ok (.iload_n 1, 1) := by decide +kernel
theorem dX6_measures_73 : decode cX6_measures 73 = .ok (.ishr, 1) := by decide +kernel
theorem dX6_measures_74 : decode cX6_measures 74 = .ok (.iconst 1, 1) := by decide +kernel
theorem dX6_measures_75 : decode cX6_measures 75 = .ok (.iand, 1) := by decide +kernel
theorem dX6_measures_76 : decode cX6_measures 76 = .ok (.iconst 1, 1) := by decide +kernel
theorem dX6_measures_77 : decode cX6_measures 77 = .ok (.if_icmp .ne 7, 3) := by decide +kernel
theorem dX6_measures_80 : decode cX6_measures 80 = .ok (.iconst 1, 1) := by decide +kernel
theorem dX6_measures_81 : decode cX6_measures 81 = .ok (.goto 4, 3) := by decide +kernel
theorem dX6_measures_84 : decode cX6_measures 84 = .ok (.iconst 0, 1) := by decide +kernel
theorem dX6_measures_85 : decode cX6_measures 85 = .ok (.istore 5, 2) := by decide +kernel
theorem dX6_measures_87 : decode cX6_measures 87 = .ok (.iload_n 1, 1) := by decide +kernel
theorem dX6_measures_88 : decode cX6_measures 88 = .ok (.iconst 1, 1) := by decide +kernel
theorem dX6_measures_89 : decode cX6_measures 89 = .ok (.iadd, 1) := by decide +kernel
theorem dX6_measures_90 : decode cX6_measures 90 = .ok (.istore 6, 2) := by decide +kernel
theorem dX6_measures_92 : decode cX6_measures 92 = .ok (.iload 6, 2) := by decide +kernel
theorem dX6_measures_94 : decode cX6_measures 94 = .ok (.bipush 16, 2) := by decide +kernel
theorem dX6_measures_96 : decode cX6_measures 96 = .ok (.if_icmp .ge 55, 3) := by decide +kernel
theorem dX6_measures_99 : decode cX6_measures 99 = .ok (.iload_n 3, 1) := by decide +kernel
theorem dX6_measures_100 : decode cX6_measures 100 = .ok (.iconst 1, 1) := by decide +kernel
theorem dX6_measures_101 : decode cX6_measures 101 = .ok (.if_icmp .le 50, 3) := by decide +kernel
theorem dX6_measures_104 : decode cX6_measures 104 = .ok (.iload 5, 2) := by decide +kernel
theorem dX6_measures_106 : decode cX6_measures 106 = .ok (.ifCond .ne 32, 3) := by decide +kernel
theorem dX6_measures_109 : decode cX6_measures 109 = .ok (.aload_n 0, 1) := by decide +kernel
theorem dX6_measures_110 : decode cX6_measures 110 = .ok (.getfield 52, 3) := by decide +kernel
theorem dX6_measures_113 : decode cX6_measures 113 = .ok (.iload 4, 2) := by decide +kernel
theorem dX6_measures_115 : decode cX6_measures 115 = .ok (.iaload, 1) := by decide +kernel
theorem dX6_measures_116 : decode cX6_measures 116 = .ok (.iload 6, 2) := by decide +kernel
theorem dX6_measures_118 : decode cX6_measures 118 = .ok (.ishr, 1) := by decide +kernel
theorem dX6_measures_119 : decode cX6_measures 119 = .ok (.iconst 1, 1) := by decide +kernel
theorem dX6_measures_120 : decode cX6_measures 120 = .ok (.iand, 1) := by decide +kernel
theorem dX6_measures_121 : decode cX6_measures 121 = .ok (.iconst 1, 1) := by decide +kernel
theorem dX6_measures_122 : decode cX6_measures 122 = .ok (.if_icmp .ne 20, 3) := by decide +kernel
theorem dX6_measures_125 : decode cX6_measures 125 = .ok (.aload_n 0, 1) := by decide +kernel
theorem dX6_measures_126 : decode cX6_measures 126 = .ok (.getfield 55, 3) := by decide +kernel
theorem dX6_measures_129 : decode cX6_measures 129 = .ok (.iload 6, 2) := by decide +kernel
theorem dX6_measures_131 : decode cX6_measures 131 = .ok (.iaload, 1) := by decide +kernel
theorem dX6_measures_132 : decode cX6_measures 132 = .ok (.iload_n 3, 1) := by decide +kernel
theorem dX6_measures_133 : decode cX6_measures 133 = .ok (.iconst 1, 1) := by decide +kernel
theorem dX6_measures_134 : decode cX6_measures 134 = .ok (.isub, 1) := by decide +kernel
theorem dX6_measures_135 : decode cX6_measures 135 = .ok (.if_icmp .ne 7, 3) := by decide +kernel
theorem dX6_measures_138 : decode cX6_measures 138 = .ok (.iconst 1, 1) := by decide +kernel
theorem dX6_measures_139 : decode cX6_measures 139 = .ok (.goto 4, 3) := by decide +kernel
theorem dX6_measures_142 : decode cX6_measures 142 = .ok (.iconst 0, 1) := by decide +kernel
theorem dX6_measures_143 : decode cX6_measures 143 = .ok (.istore 5, 2) := by decide +kernel
theorem dX6_measures_145 : decode cX6_measures 145 = .ok (.iinc 6 1, 3) := by decide +kernel
theorem dX6_measures_148 : decode cX6_measures 148 = .ok (.goto (-56), 3) := by decide +kernel
theorem dX6_measures_151 : decode cX6_measures 151 = .ok (.iload 5, 2) := by decide +kernel
theorem dX6_measures_153 : decode cX6_measures 153 = .ok (.ifCond .eq 11, 3) := by decide +kernel
theorem dX6_measures_156 : decode cX6_measures 156 = .ok (.aload_n 0, 1) := by decide +kernel
theorem dX6_measures_157 : decode cX6_measures 157 = .ok (.getfield 55, 3) := by decide +kernel
theorem dX6_measures_160 : decode cX6_measures 160 = .ok (.iload 4, 2) := by decide +kernel
theorem dX6_measures_162 : decode cX6_measures 162 = .ok (.iload_n 3, 1) := by decide +kernel
theorem dX6_measures_163 : decode cX6_measures 163 = .ok (.iastore, 1) := by decide +kernel
theorem dX6_measures_164 : decode cX6_measures 164 = .ok (.iinc 4 1, 3) := by decide +kernel
theorem dX6_measures_167 : decode cX6_measures 167 = .ok (.goto (-129), 3) := by decide +kernel
theorem dX6_measures_170 : decode cX6_measures 170 = .ok (.iinc 3 1, 3) := by decide +kernel
theorem dX6_measures_173 : decode cX6_measures 173 = .ok (.goto (-146), 3) := by decide +kernel
theorem dX6_measures_176 : decode cX6_measures 176 = .ok (.iload_n 1, 1) := by decide +kernel
theorem dX6_measures_177 : decode cX6_measures 177 = .ok (.iconst 1, 1) := by decide +kernel
theorem dX6_measures_178 : decode cX6_measures 178 = .ok (.iadd, 1) := by decide +kernel
theorem dX6_measures_179 : decode cX6_measures 179 = .ok (.istore_n 3, 1) := by decide +kernel
theorem dX6_measures_180 : decode cX6_measures 180 = .ok (.iload_n 3, 1) := by decide +kernel
theorem dX6_measures_181 : decode cX6_measures 181 = .ok (.bipush 16, 2) := by decide +kernel
theorem dX6_measures_183 : decode cX6_measures 183 = .ok (.if_icmp .ge 44, 3) := by decide +kernel
theorem dX6_measures_186 : decode cX6_measures 186 = .ok (.aload_n 0, 1) := by decide +kernel
theorem dX6_measures_187 : decode cX6_measures 187 = .ok (.getfield 52, 3) := by decide +kernel
theorem dX6_measures_190 : decode cX6_measures 190 = .ok (.iload_n 1, 1) := by decide +kernel
theorem dX6_measures_191 : decode cX6_measures 191 = .ok (.iaload, 1) := by decide +kernel
theorem dX6_measures_192 : decode cX6_measures 192 = .ok (.iload_n 3, 1) := by decide +kernel
theorem dX6_measures_193 : decode cX6_measures 193 = .ok (.ishr, 1) := by decide +kernel
theorem dX6_measures_194 : decode cX6_measures 194 = .ok (.iconst 1, 1) := by decide +kernel
theorem dX6_measures_195 : decode cX6_measures 195 = .ok (.iand, 1) := by decide +kernel
theorem dX6_measures_196 : decode cX6_measures 196 = .ok (.iconst 1, 1) := by decide +kernel
theorem dX6_measures_197 : decode cX6_measures 197 = .ok (.if_icmp .ne 24, 3) := by decide +kernel
theorem dX6_measures_200 : decode cX6_measures 200 = .ok (.aload_n 0, 1) := by decide +kernel
theorem dX6_measures_201 : decode cX6_measures 201 = .ok (.getfield 55, 3) := by decide +kernel
theorem dX6_measures_204 : decode cX6_measures 204 = .ok (.iload_n 3, 1) := by decide +kernel
theorem dX6_measures_205 : decode cX6_measures 205 = .ok (.iaload, 1) := by decide +kernel
theorem dX6_measures_206 : decode cX6_measures 206 = .ok (.iconst 1, 1) := by decide +kernel
theorem dX6_measures_207 : decode cX6_measures 207 = .ok (.iadd, 1) := by decide +kernel
theorem dX6_measures_208 : decode cX6_measures 208 = .ok (.iload_n 2, 1) := by decide +kernel
theorem dX6_measures_209 : decode cX6_measures 209 = .ok (.if_icmp .ge 12, 3) := by decide +kernel
theorem dX6_measures_212 : decode cX6_measures 212 = .ok (.aload_n 0, 1) := by decide +kernel
theorem dX6_measures_213 : decode cX6_measures 213 = .ok (.getfield 55, 3) := by decide +kernel
theorem dX6_measures_216 : decode cX6_measures 216 = .ok (.iload_n 3, 1) := by decide +kernel
theorem dX6_measures_217 : decode cX6_measures 217 = .ok (.iaload, 1) := by decide +kernel
theorem dX6_measures_218 : decode cX6_measures 218 = .ok (.iconst 1, 1) := by decide +kernel
theorem dX6_measures_219 : decode cX6_measures 219 = .ok (.iadd, 1) := by decide +kernel
theorem dX6_measures_220 : decode cX6_measures 220 = .ok (.istore_n 2, 1) := by decide +kernel
theorem dX6_measures_221 : decode cX6_measures 221 = .ok (.iinc 3 1, 3) := by decide +kernel
theorem dX6_measures_224 : decode cX6_measures 224 = .ok (.goto (-44), 3) := by decide +kernel
theorem dX6_measures_227 : decode cX6_measures 227 = .ok (.iload_n 2, 1) := by decide +kernel
theorem dX6_measures_228 : decode cX6_measures 228 = .ok (.ireturn, 1) := by decide +kernel
theorem dX6_breaks_0 : decode cX6_breaks 0 = .ok (.aload_n 0, 1) := by decide +kernel
theorem dX6_breaks_1 : decode cX6_breaks 1 = .ok (.invokevirtual 181, 3) := by decide +kernel
theorem dX6_breaks_4 : decode cX6_breaks 4 = .ok (.aload_n 0, 1) := by decide +kernel
theorem dX6_breaks_5 : decode cX6_breaks 5 = .ok (.bipush 100, 2) := by decide +kernel
theorem dX6_breaks_7 : decode cX6_breaks 7 = .ok (.putfield 184, 3) := by decide +kernel
theorem dX6_breaks_10 : decode cX6_breaks 10 = .ok (.iconst 0, 1) := by decide +kernel
theorem dX6_breaks_11 : decode cX6_breaks 11 = .ok (.istore_n 1, 1) := by decide +kernel
theorem dX6_breaks_12 : decode cX6_breaks 12 = .ok (.iload_n 1, 1) := by decide +kernel
theorem dX6_breaks_13 : decode cX6_breaks 13 = .ok (.bipush 16, 2) := by decide +kernel
theorem dX6_breaks_15 : decode cX6_breaks 15 = .ok (.if_icmp .ge 113, 3) := by decide +kernel
theorem dX6_breaks_18 : decode cX6_breaks 18 = .ok (.aload_n 0, 1) := by decide +kernel
theorem dX6_breaks_19 : decode cX6_breaks 19 = .ok (.iload_n 1, 1) := by decide +kernel
theorem dX6_breaks_20 : decode cX6_breaks 20 = .ok (.invokevirtual 187, 3) := by decide +kernel
theorem dX6_breaks_23 : decode cX6_breaks 23 = .ok (.istore_n 2, 1) := by decide +kernel
theorem dX6_breaks_24 : decode cX6_breaks 24 = .ok (.iload_n 2, 1) := by decide +kernel
theorem dX6_breaks_25 : decode cX6_breaks 25 = .ok (.aload_n 0, 1) := by decide +kernel
theorem dX6_breaks_26 : decode cX6_breaks 26 = .ok (.getfield 184, 3) := by decide +kernel
theorem dX6_breaks_29 : decode cX6_breaks 29 = .ok (.if_icmp .lt 6, 3) := by decide +kernel
theorem dX6_breaks_32 : decode cX6_breaks 32 = .ok (.goto 90, 3) := by decide +kernel
theorem dX6_breaks_35 : decode cX6_breaks 35 = .ok (.aload_n 0, 1) := by decide +kernel
theorem dX6_breaks_36 : decode cX6_breaks 36 = .ok (.iload_n 2, 1) := by decide +kernel
theorem dX6_breaks_37 : decode cX6_breaks 37 = .ok (.putfield 184, 3) := by decide +kernel
theorem dX6_breaks_40 : decode cX6_breaks 40 = .ok (.iload_n 1, 1) := by decide +kernel
theorem dX6_breaks_41 : decode cX6_breaks 41 = .ok (.istore_n 3, 1) := by decide +kernel
theorem dX6_breaks_42 : decode cX6_breaks 42 = .ok (.iconst 0, 1) := by decide +kernel
theorem dX6_breaks_43 : decode cX6_breaks 43 = .ok (.istore 4, 2) := by decide +kernel
theorem dX6_breaks_45 : decode cX6_breaks 45 = .ok (.iload 4, 2) := by decide +kernel
theorem dX6_breaks_47 : decode cX6_breaks 47 = .ok (.iload_n 2, 1) := by decide +kernel
theorem dX6_breaks_48 : decode cX6_breaks 48 = .ok (.if_icmp .ge 74, 3) := by decide +kernel
theorem dX6_breaks_51 : decode cX6_breaks 51 = .ok (.aload_n 0, 1) := by decide +kernel
theorem dX6_breaks_52 : decode cX6_breaks 52 = .ok (.getfield 58, 3) := by decide +kernel
theorem dX6_breaks_55 : decode cX6_breaks 55 = .ok (.iload 4, 2) := by decide +kernel
theorem dX6_breaks_57 : decode cX6_breaks 57 = .ok (.iload_n 3, 1) := by decide +kernel
theorem dX6_breaks_58 : decode cX6_breaks 58 = .ok (.iastore, 1) := by decide +kernel
theorem dX6_breaks_59 : decode cX6_breaks 59 = .ok (.iconst 0, 1) := by decide +kernel
theorem dX6_breaks_60 : decode cX6_breaks 60 = .ok (.istore 5, 2) := by decide +kernel
theorem dX6_breaks_62 : decode cX6_breaks 62 = .ok (.bipush 15, 2) := by decide +kernel
theorem dX6_breaks_64 : decode cX6_breaks 64 = .ok (.istore 6, 2) := by decide +kernel
theorem dX6_breaks_66 : decode cX6_breaks 66 = .ok (.iload 6, 2) := by decide +kernel
theorem dX6_breaks_68 : decode cX6_breaks 68 = .ok (.iload_n 1, 1) := by decide +kernel
theorem dX6_breaks_69 : decode cX6_breaks 69 = .ok (.if_icmp .le 44, 3) := by decide +kernel
theorem dX6_breaks_72 : decode cX6_breaks 72 = .ok (.aload_n 0, 1) := by decide +kernel
theorem dX6_breaks_73 : decode cX6_breaks 73 = .ok (.getfield 52, 3) := by decide +kernel
theorem dX6_breaks_76 : decode cX6_breaks 76 = .ok (.iload_n 3, 1) := by decide +kernel
theorem dX6_breaks_77 : decode cX6_breaks 77 = .ok (.iaload, 1) := by decide +kernel
theorem dX6_breaks_78 : decode cX6_breaks 78 = .ok (.iload 6, 2) := by decide +kernel
theorem dX6_breaks_80 : decode cX6_breaks 80 = .ok (.ishr, 1) := by decide +kernel
theorem dX6_breaks_81 : decode cX6_breaks 81 = .ok (.iconst 1, 1) := by decide +kernel
theorem dX6_breaks_82 : decode cX6_breaks 82 = .ok (.iand, 1) := by decide +kernel
theorem dX6_breaks_83 : decode cX6_breaks 83 = .ok (.iconst 1, 1) := by decide +kernel
theorem dX6_breaks_84 : decode cX6_breaks 84 = .ok (.if_icmp .ne 23, 3) := by decide +kernel
theorem dX6_breaks_87 : decode cX6_breaks 87 = .ok (.aload_n 0, 1) := by decide +kernel
theorem dX6_breaks_88 : decode cX6_breaks 88 = .ok (.getfield 55, 3) := by decide +kernel
theorem dX6_breaks_91 : decode cX6_breaks 91 = .ok (.iload 6, 2) := by decide +kernel
theorem dX6_breaks_93 : decode cX6_breaks 93 = .ok (.iaload, 1) := by decide +kernel
theorem dX6_breaks_94 : decode cX6_breaks 94 = .ok (.iload_n 2, 1) := by decide +kernel
theorem dX6_breaks_95 : decode cX6_breaks 95 = .ok (.iconst 1, 1) := by decide +kernel
theorem dX6_breaks_96 : decode cX6_breaks 96 = .ok (.isub, 1) := by decide +kernel
theorem dX6_breaks_97 : decode cX6_breaks 97 = .ok (.iload 4, 2) := by decide +kernel
theorem dX6_breaks_99 : decode cX6_breaks 99 = .ok (.isub, 1) := by decide +kernel
theorem dX6_breaks_100 : decode cX6_breaks 100 = .ok (.if_icmp .ne 7, 3) := by decide +kernel
theorem dX6_breaks_103 : decode cX6_breaks 103 = .ok (.iload 6, 2) := by decide +kernel
theorem dX6_breaks_105 : decode cX6_breaks 105 = .ok (.istore 5, 2) := by decide +kernel
theorem dX6_breaks_107 : decode cX6_breaks 107 = .ok (.iinc 6 (-1), 3) := by decide +kernel
theorem dX6_breaks_110 : decode cX6_breaks 110 = .ok (.goto (-44), 3) := by decide +kernel
theorem dX6_breaks_113 : decode cX6_breaks 113 = .ok (.iload 5, 2) := by decide +kernel
theorem dX6_breaks_115 : decode cX6_breaks 115 = .ok (.istore_n 3, 1) := by decide +kernel
theorem dX6_breaks_116 : decode cX6_breaks 116 = .ok (.iinc 4 1, 3) := by decide +kernel
theorem dX6_breaks_119 : decode cX6_breaks 119 = .ok (.goto (-74), 3) := by decide +kernel
theorem dX6_breaks_122 : decode cX6_breaks 122 = .ok (.iinc 1 1, 3) := by decide +kernel
theorem dX6_breaks_125 : decode cX6_breaks 125 = .ok (.goto (-113), 3) := by decide +kernel
theorem dX6_breaks_128 : decode cX6_breaks 128 = .ok (.return_, 1) := by decide +kernel
theorem dX6_broken_0 : decode cX6_broken 0 = .ok (.aload_n 0, 1) := by decide +kernel
theorem dX6_broken_1 : decode cX6_broken 1 = .ok (.invokevirtual 190, 3) := by decide +kernel
theorem dX6_broken_4 : decode cX6_broken 4 = .ok (.aload_n 0, 1) := by decide +kernel
theorem dX6_broken_5 : decode cX6_broken 5 = .ok (.getfield 184, 3) := by decide +kernel
theorem dX6_broken_8 : decode cX6_broken 8 = .ok (.bipush 100, 2) := by decide +kernel
theorem dX6_broken_10 : decode cX6_broken 10 = .ok (.if_icmp .ge 26, 3) := by decide +kernel
theorem dX6_broken_13 : decode cX6_broken 13 = .ok (.iload_n 1, 1) := by decide +kernel
theorem dX6_broken_14 : decode cX6_broken 14 = .ok (.iconst 0, 1) := by decide +kernel
theorem dX6_broken_15 : decode cX6_broken 15 = .ok (.aload_n 0, 1) := by decide +kernel
theorem dX6_broken_16 : decode cX6_broken 16 = .ok (.getfield 184, 3) := by decide +kernel
theorem dX6_broken_19 : decode cX6_broken 19 = .ok (.iconst 1, 1) := by decide +kernel
theorem dX6_broken_20 : decode cX6_broken 20 = .ok (.isub, 1) := by decide +kernel
theorem dX6_broken_21 : decode cX6_broken 21 = .ok (.invokestatic 84, 3) := by decide +kernel
theorem dX6_broken_24 : decode cX6_broken 24 = .ok (.ifCond .eq 12, 3) := by decide +kernel
theorem dX6_broken_27 : decode cX6_broken 27 = .ok (.aload_n 0, 1) := by decide +kernel
theorem dX6_broken_28 : decode cX6_broken 28 = .ok (.getfield 58, 3) := by decide +kernel
theorem dX6_broken_31 : decode cX6_broken 31 = .ok (.iload_n 1, 1) := by decide +kernel
theorem dX6_broken_32 : decode cX6_broken 32 = .ok (.iaload, 1) := by decide +kernel
theorem dX6_broken_33 : decode cX6_broken 33 = .ok (.goto 4, 3) := by decide +kernel
theorem dX6_broken_36 : decode cX6_broken 36 = .ok (.iconst (-1), 1) := by decide +kernel
theorem dX6_broken_37 : decode cX6_broken 37 = .ok (.ireturn, 1) := by decide +kernel
theorem dX6_meter_0 : decode cX6_meter 0 = .ok (.iload_n 1, 1) := by decide +kernel
theorem dX6_meter_1 : decode cX6_meter 1 = .ok (.iconst 2, 1) := by decide +kernel
theorem dX6_meter_2 : decode cX6_meter 2 = .ok (.sipush 10000, 3) := by decide +kernel
theorem dX6_meter_5 : decode cX6_meter 5 = .ok (.invokestatic 84, 3) := by decide +kernel
theorem dX6_meter_8 : decode cX6_meter 8 = .ok (.ifCond .eq 13, 3) := by decide +kernel
theorem dX6_meter_11 : decode cX6_meter 11 = .ok (.iload_n 2, 1) := by decide +kernel
theorem dX6_meter_12 : decode cX6_meter 12 = .ok (.iconst 0, 1) := by decide +kernel
theorem dX6_meter_13 : decode cX6_meter 13 = .ok (.bipush 100, 2) := by decide +kernel
theorem dX6_meter_15 : decode cX6_meter 15 = .ok (.invokestatic 84, 3) := by decide +kernel
theorem dX6_meter_18 : decode cX6_meter 18 = .ok (.ifCond .ne 5, 3) := by decide +kernel
theorem dX6_meter_21 : decode cX6_meter 21 = .ok (.iconst 0, 1) := by decide +kernel
theorem dX6_meter_22 : decode cX6_meter 22 = .ok (.ireturn, 1) := by decide +kernel
theorem dX6_meter_23 : decode cX6_meter 23 = .ok (.aload_n 0, 1) := by decide +kernel
theorem dX6_meter_24 : decode cX6_meter 24 = .ok (.iload_n 1, 1) := by decide +kernel
theorem dX6_meter_25 : decode cX6_meter 25 = .ok (.putfield 13, 3) := by decide +kernel
theorem dX6_meter_28 : decode cX6_meter 28 = .ok (.aload_n 0, 1) := by decide +kernel
theorem dX6_meter_29 : decode cX6_meter 29 = .ok (.iload_n 2, 1) := by decide +kernel
theorem dX6_meter_30 : decode cX6_meter 30 = .ok (.putfield 17, 3) := by decide +kernel
theorem dX6_meter_33 : decode cX6_meter 33 = .ok (.iconst 1, 1) := by decide +kernel
theorem dX6_meter_34 : decode cX6_meter 34 = .ok (.ireturn, 1) := by decide +kernel
theorem dX6_work_0 : decode cX6_work 0 = .ok (.aload_n 0, 1) := by decide +kernel
theorem dX6_work_1 : decode cX6_work 1 = .ok (.iload_n 2, 1) := by decide +kernel
theorem dX6_work_2 : decode cX6_work 2 = .ok (.iload_n 1, 1) := by decide +kernel
theorem dX6_work_3 : decode cX6_work 3 = .ok (.invokevirtual 149, 3) := by decide +kernel
theorem dX6_work_6 : decode cX6_work 6 = .ok (.ifCond .eq 17, 3) := by decide +kernel
theorem dX6_work_9 : decode cX6_work 9 = .ok (.aload_n 0, 1) := by decide +kernel
theorem dX6_work_10 : decode cX6_work 10 = .ok (.iload_n 3, 1) := by decide +kernel
theorem dX6_work_11 : decode cX6_work 11 = .ok (.iload_n 1, 1) := by decide +kernel
theorem dX6_work_12 : decode cX6_work 12 = .ok (.invokevirtual 149, 3) := by decide +kernel
theorem dX6_work_15 : decode cX6_work 15 = .ok (.ifCond .eq 8, 3) := by decide +kernel
theorem dX6_work_18 : decode cX6_work 18 = .ok (.iload_n 2, 1) := by decide +kernel
theorem dX6_work_19 : decode cX6_work 19 = .ok (.iload_n 3, 1) := by decide +kernel
theorem dX6_work_20 : decode cX6_work 20 = .ok (.if_icmp .ne 5, 3) := by decide +kernel
theorem dX6_work_23 : decode cX6_work 23 = .ok (.iconst (-1), 1) := by decide +kernel
theorem dX6_work_24 : decode cX6_work 24 = .ok (.ireturn, 1) := by decide +kernel
theorem dX6_work_25 : decode cX6_work 25 = .ok (.aload_n 0, 1) := by decide +kernel
theorem dX6_work_26 : decode cX6_work 26 = .ok (.getfield 20, 3) := by decide +kernel
theorem dX6_work_29 : decode cX6_work 29 = .ok (.iload_n 2, 1) := by decide +kernel
theorem dX6_work_30 : decode cX6_work 30 = .ok (.iaload, 1) := by decide +kernel
theorem dX6_work_31 : decode cX6_work 31 = .ok (.aload_n 0, 1) := by decide +kernel
theorem dX6_work_32 : decode cX6_work 32 = .ok (.getfield 20, 3) := by decide +kernel
theorem dX6_work_35 : decode cX6_work 35 = .ok (.iload_n 3, 1) := by decide +kernel
theorem dX6_work_36 : decode cX6_work 36 = .ok (.iaload, 1) := by decide +kernel
theorem dX6_work_37 : decode cX6_work 37 = .ok (.if_icmp .ge 7, 3) := by decide +kernel
theorem dX6_work_40 : decode cX6_work 40 = .ok (.iload_n 2, 1) := by decide +kernel
theorem dX6_work_41 : decode cX6_work 41 = .ok (.goto 4, 3) := by decide +kernel
theorem dX6_work_44 : decode cX6_work 44 = .ok (.iload_n 3, 1) := by decide +kernel
theorem dX6_work_45 : decode cX6_work 45 = .ok (.istore 5, 2) := by decide +kernel
theorem dX6_work_47 : decode cX6_work 47 = .ok (.iload_n 2, 1) := by decide +kernel
theorem dX6_work_48 : decode cX6_work 48 = .ok (.iload_n 3, 1) := by decide +kernel
theorem dX6_work_49 : decode cX6_work 49 = .ok (.iadd, 1) := by decide +kernel
theorem dX6_work_50 : decode cX6_work 50 = .ok (.iload 5, 2) := by decide +kernel
theorem dX6_work_52 : decode cX6_work 52 = .ok (.isub, 1) := by decide +kernel
theorem dX6_work_53 : decode cX6_work 53 = .ok (.istore 6, 2) := by decide +kernel
theorem dX6_work_55 : decode cX6_work 55 = .ok (.aload_n 0, 1) := by decide +kernel
theorem dX6_work_56 : decode cX6_work 56 = .ok (.getfield 34, 3) := by decide +kernel
theorem dX6_work_59 : decode cX6_work 59 = .ok (.bipush 24, 2) := by decide +kernel
theorem dX6_work_61 : decode cX6_work 61 = .ok (.iload 6, 2) := by decide +kernel
theorem dX6_work_63 : decode cX6_work 63 = .ok (.imul, 1) := by decide +kernel
theorem dX6_work_64 : decode cX6_work 64 = .ok (.iload_n 1, 1) := by decide +kernel
theorem dX6_work_65 : decode cX6_work 65 = .ok (.iadd, 1) := by decide +kernel
theorem dX6_work_66 : decode cX6_work 66 = .ok (.iaload, 1) := by decide +kernel
theorem dX6_work_67 : decode cX6_work 67 = .ok (.aload_n 0, 1) := by decide +kernel
theorem dX6_work_68 : decode cX6_work 68 = .ok (.getfield 13, 3) := by decide +kernel
theorem dX6_work_71 : decode cX6_work 71 = .ok (.irem, 1) := by decide +kernel
theorem dX6_work_72 : decode cX6_work 72 = .ok (.aload_n 0, 1) := by decide +kernel
theorem dX6_work_73 : decode cX6_work 73 = .ok (.getfield 34, 3) := by decide +kernel
theorem dX6_work_76 : decode cX6_work 76 = .ok (.bipush 24, 2) := by decide +kernel
theorem dX6_work_78 : decode cX6_work 78 = .ok (.iload 5, 2) := by decide +kernel
theorem dX6_work_80 : decode cX6_work 80 = .ok (.imul, 1) := by decide +kernel
theorem dX6_work_81 : decode cX6_work 81 = .ok (.iload_n 1, 1) := by decide +kernel
theorem dX6_work_82 : decode cX6_work 82 = .ok (.iadd, 1) := by decide +kernel
theorem dX6_work_83 : decode cX6_work 83 = .ok (.iaload, 1) := by decide +kernel
theorem dX6_work_84 : decode cX6_work 84 = .ok (.aload_n 0, 1) := by decide +kernel
theorem dX6_work_85 : decode cX6_work 85 = .ok (.getfield 13, 3) := by decide +kernel
theorem dX6_work_88 : decode cX6_work 88 = .ok (.irem, 1) := by decide +kernel
theorem dX6_work_89 : decode cX6_work 89 = .ok (.isub, 1) := by decide +kernel
theorem dX6_work_90 : decode cX6_work 90 = .ok (.aload_n 0, 1) := by decide +kernel
theorem dX6_work_91 : decode cX6_work 91 = .ok (.getfield 13, 3) := by decide +kernel
theorem dX6_work_94 : decode cX6_work 94 = .ok (.iadd, 1) := by decide +kernel
theorem dX6_work_95 : decode cX6_work 95 = .ok (.aload_n 0, 1) := by decide +kernel
theorem dX6_work_96 : decode cX6_work 96 = .ok (.getfield 13, 3) := by decide +kernel
theorem dX6_work_99 : decode cX6_work 99 = .ok (.irem, 1) := by decide +kernel
theorem dX6_work_100 : decode cX6_work 100 = .ok (.istore 7, 2) := by decide +kernel
theorem dX6_work_102 : decode cX6_work 102 = .ok (.aload_n 0, 1) := by decide +kernel
theorem dX6_work_103 : decode cX6_work 103 = .ok (.getfield 17, 3) := by decide +kernel
theorem dX6_work_106 : decode cX6_work 106 = .ok (.aload_n 0, 1) := by decide +kernel
theorem dX6_work_107 : decode cX6_work 107 = .ok (.getfield 20, 3) := by decide +kernel
theorem dX6_work_110 : decode cX6_work 110 = .ok (.iload 6, 2) := by decide +kernel
theorem dX6_work_112 : decode cX6_work 112 = .ok (.iaload, 1) := by decide +kernel
theorem dX6_work_113 : decode cX6_work 113 = .ok (.aload_n 0, 1) := by decide +kernel
theorem dX6_work_114 : decode cX6_work 114 = .ok (.getfield 20, 3) := by decide +kernel
theorem dX6_work_117 : decode cX6_work 117 = .ok (.iload 5, 2) := by decide +kernel
theorem dX6_work_119 : decode cX6_work 119 = .ok (.iaload, 1) := by decide +kernel
theorem dX6_work_120 : decode cX6_work 120 = .ok (.isub, 1) := by decide +kernel
theorem dX6_work_121 : decode cX6_work 121 = .ok (.imul, 1) := by decide +kernel
theorem dX6_work_122 : decode cX6_work 122 = .ok (.istore 8, 2) := by decide +kernel
theorem dX6_work_124 : decode cX6_work 124 = .ok (.iload 7, 2) := by decide +kernel
theorem dX6_work_126 : decode cX6_work 126 = .ok (.iload 8, 2) := by decide +kernel
theorem dX6_work_128 : decode cX6_work 128 = .ok (.if_icmp .le 7, 3) := by decide +kernel
theorem dX6_work_131 : decode cX6_work 131 = .ok (.iconst 0, 1) := by decide +kernel
theorem dX6_work_132 : decode cX6_work 132 = .ok (.goto 15, 3) := by decide +kernel
theorem dX6_work_135 : decode cX6_work 135 = .ok (.iload 8, 2) := by decide +kernel
theorem dX6_work_137 : decode cX6_work 137 = .ok (.iload 7, 2) := by decide +kernel
theorem dX6_work_139 : decode cX6_work 139 = .ok (.isub, 1) := by decide +kernel
theorem dX6_work_140 : decode cX6_work 140 = .ok (.aload_n 0, 1) := by decide +kernel
theorem dX6_work_141 : decode cX6_work 141 = .ok (.getfield 13, 3) := by decide +kernel
theorem dX6_work_144 : decode cX6_work 144 = .ok (.idiv, 1) := by decide +kernel
theorem dX6_work_145 : decode cX6_work 145 = .ok (.iconst 1, 1) := by decide +kernel
theorem dX6_work_146 : decode cX6_work 146 = .ok (.iadd, 1) := by decide +kernel
theorem dX6_work_147 : decode cX6_work 147 = .ok (.istore 9, 2) := by decide +kernel
theorem dX6_work_149 : decode cX6_work 149 = .ok (.iload 4, 2) := by decide +kernel
theorem dX6_work_151 : decode cX6_work 151 = .ok (.tableswitch 62 0 2 #[25, 37, 59], 25) := by decide +kernel
theorem dX6_work_176 : decode cX6_work 176 = .ok (.iload 9, 2) := by decide +kernel
theorem dX6_work_178 : decode cX6_work 178 = .ok (.ifCond .ne 7, 3) := by decide +kernel
theorem dX6_work_181 : decode cX6_work 181 = .ok (.iconst (-1), 1) := by decide +kernel
theorem dX6_work_182 : decode cX6_work 182 = .ok (.goto 5, 3) := by decide +kernel
theorem dX6_work_185 : decode cX6_work 185 = .ok (.iload 7, 2) := by decide +kernel
theorem dX6_work_187 : decode cX6_work 187 = .ok (.ireturn, 1) := by decide +kernel
theorem dX6_work_188 : decode cX6_work 188 = .ok (.iload 9, 2) := by decide +kernel
theorem dX6_work_190 : decode cX6_work 190 = .ok (.ifCond .ne 7, 3) := by decide +kernel
theorem dX6_work_193 : decode cX6_work 193 = .ok (.iconst (-1), 1) := by decide +kernel
theorem dX6_work_194 : decode cX6_work 194 = .ok (.goto 15, 3) := by decide +kernel
theorem dX6_work_197 : decode cX6_work 197 = .ok (.iload 7, 2) := by decide +kernel
theorem dX6_work_199 : decode cX6_work 199 = .ok (.iload 9, 2) := by decide +kernel
theorem dX6_work_201 : decode cX6_work 201 = .ok (.iconst 1, 1) := by decide +kernel
theorem dX6_work_202 : decode cX6_work 202 = .ok (.isub, 1) := by decide +kernel
theorem dX6_work_203 : decode cX6_work 203 = .ok (.aload_n 0, 1) := by decide +kernel
theorem dX6_work_204 : decode cX6_work 204 = .ok (.getfield 13, 3) := by decide +kernel
theorem dX6_work_207 : decode cX6_work 207 = .ok (.imul, 1) := by decide +kernel
theorem dX6_work_208 : decode cX6_work 208 = .ok (.iadd, 1) := by decide +kernel
theorem dX6_work_209 : decode cX6_work 209 = .ok (.ireturn, 1) := by decide +kernel
theorem dX6_work_210 : decode cX6_work 210 = .ok (.iload 9, 2) := by decide +kernel
theorem dX6_work_212 : decode cX6_work 212 = .ok (.ireturn, 1) := by decide +kernel
theorem dX6_work_213 : decode cX6_work 213 = .ok (.iconst (-1), 1) := by decide +kernel
theorem dX6_work_214 : decode cX6_work 214 = .ok (.ireturn, 1) := by decide +kernel
theorem dX6_least_0 : decode cX6_least 0 = .ok (.iload_n 0, 1) := by decide +kernel
theorem dX6_least_1 : decode cX6_least 1 = .ok (.iload_n 1, 1) := by decide +kernel
theorem dX6_least_2 : decode cX6_least 2 = .ok (.if_icmp .ge 7, 3) := by decide +kernel
theorem dX6_least_5 : decode cX6_least 5 = .ok (.iload_n 0, 1) := by decide +kernel
theorem dX6_least_6 : decode cX6_least 6 = .ok (.goto 4, 3) := by decide +kernel
theorem dX6_least_9 : decode cX6_least 9 = .ok (.iload_n 1, 1) := by decide +kernel
theorem dX6_least_10 : decode cX6_least 10 = .ok (.ireturn, 1) := by decide +kernel
theorem dX6_distanceOf_0 : decode cX6_distanceOf 0 = .ok (.iconst 0, 1) := by decide +kernel
theorem dX6_distanceOf_1 : decode cX6_distanceOf 1 = .ok (.istore_n 3, 1) := by decide +kernel
theorem dX6_distanceOf_2 : decode cX6_distanceOf 2 = .ok (.iload_n 3, 1) := by decide +kernel
theorem dX6_distanceOf_3 : decode cX6_distanceOf 3 = .ok (.aload_n 0, 1) := by decide +kernel
theorem dX6_distanceOf_4 : decode cX6_distanceOf 4 = .ok (.getfield 43, 3) := by decide +kernel
theorem dX6_distanceOf_7 : decode cX6_distanceOf 7 = .ok (.iload_n 1, 1) := by decide +kernel
theorem dX6_distanceOf_8 : decode cX6_distanceOf 8 = .ok (.iaload, 1) := by decide +kernel
theorem dX6_distanceOf_9 : decode cX6_distanceOf 9 = .ok (.if_icmp .gt 158, 3) := by decide +kernel
theorem dX6_distanceOf_12 : decode cX6_distanceOf 12 = .ok (.iconst 0, 1) := by decide +kernel
theorem dX6_distanceOf_13 : decode cX6_distanceOf 13 = .ok (.istore 4, 2) := by decide +kernel
theorem dX6_distanceOf_15 : decode cX6_distanceOf 15 = .ok (.iload 4, 2) := by decide +kernel
theorem dX6_distanceOf_17 : decode cX6_distanceOf 17 = .ok (.aload_n 0, 1) := by decide +kernel
theorem dX6_distanceOf_18 : decode cX6_distanceOf 18 = .ok (.getfield 43, 3) := by decide +kernel
theorem dX6_distanceOf_21 : decode cX6_distanceOf 21 = .ok (.iload_n 2, 1) := by decide +kernel
theorem dX6_distanceOf_22 : decode cX6_distanceOf 22 = .ok (.iaload, 1) := by decide +kernel
theorem dX6_distanceOf_23 : decode cX6_distanceOf 23 = .ok (.if_icmp .gt 138, 3) := by decide +kernel
theorem dX6_distanceOf_26 : decode cX6_distanceOf 26 = .ok (.iload_n 3, 1) := by decide +kernel
theorem dX6_distanceOf_27 : decode cX6_distanceOf 27 = .ok (.ifCond .ne 8, 3) := by decide +kernel
theorem dX6_distanceOf_30 : decode cX6_distanceOf 30 = .ok (.iload 4, 2) := by decide +kernel
theorem dX6_distanceOf_32 : decode cX6_distanceOf 32 = .ok (.goto 4, 3) := by decide +kernel
theorem dX6_distanceOf_35 : decode cX6_distanceOf 35 = .ok (.iload_n 3, 1) := by decide +kernel
theorem dX6_distanceOf_36 : decode cX6_distanceOf 36 = .ok (.istore 5, 2) := by decide +kernel
theorem dX6_distanceOf_38 : decode cX6_distanceOf 38 = .ok (.iload_n 3, 1) := by decide +kernel
theorem dX6_distanceOf_39 : decode cX6_distanceOf 39 = .ok (.ifCond .le 102, 3) := by decide +kernel
theorem dX6_distanceOf_42 : decode cX6_distanceOf 42 = .ok (.iload 4, 2) := by decide +kernel
theorem dX6_distanceOf_44 : decode cX6_distanceOf 44 = .ok (.ifCond .le 97, 3) := by decide +kernel
theorem dX6_distanceOf_47 : decode cX6_distanceOf 47 = .ok (.aload_n 0, 1) := by decide +kernel
theorem dX6_distanceOf_48 : decode cX6_distanceOf 48 = .ok (.getfield 46, 3) := by decide +kernel
theorem dX6_distanceOf_51 : decode cX6_distanceOf 51 = .ok (.bipush 12, 2) := by decide +kernel
theorem dX6_distanceOf_53 : decode cX6_distanceOf 53 = .ok (.iload_n 1, 1) := by decide +kernel
theorem dX6_distanceOf_54 : decode cX6_distanceOf 54 = .ok (.imul, 1) := by decide +kernel
theorem dX6_distanceOf_55 : decode cX6_distanceOf 55 = .ok (.iload_n 3, 1) := by decide +kernel
theorem dX6_distanceOf_56 : decode cX6_distanceOf 56 = .ok (.iadd, 1) := by decide +kernel
theorem dX6_distanceOf_57 : decode cX6_distanceOf 57 = .ok (.iconst 1, 1) := by decide +kernel
theorem dX6_distanceOf_58 : decode cX6_distanceOf 58 = .ok (.isub, 1) := by decide +kernel
theorem dX6_distanceOf_59 : decode cX6_distanceOf 59 = .ok (.baload, 1) := by decide +kernel
theorem dX6_distanceOf_60 : decode cX6_distanceOf 60 = .ok (.aload_n 0, 1) := by decide +kernel
theorem dX6_distanceOf_61 : decode cX6_distanceOf 61 = .ok (.getfield 46, 3) := by decide +kernel
theorem dX6_distanceOf_64 : decode cX6_distanceOf 64 = .ok (.bipush 12, 2) := by decide +kernel
theorem dX6_distanceOf_66 : decode cX6_distanceOf 66 = .ok (.iload_n 2, 1) := by decide +kernel
theorem dX6_distanceOf_67 : decode cX6_distanceOf 67 = .ok (.imul, 1) := by decide +kernel
theorem dX6_distanceOf_68 : decode cX6_distanceOf 68 = .ok (.iload 4, 2) := by decide +kernel
theorem dX6_distanceOf_70 : decode cX6_distanceOf 70 = .ok (.iadd, 1) := by decide +kernel
theorem dX6_distanceOf_71 : decode cX6_distanceOf 71 = .ok (.iconst 1, 1) := by decide +kernel
theorem dX6_distanceOf_72 : decode cX6_distanceOf 72 = .ok (.isub, 1) := by decide +kernel
theorem dX6_distanceOf_73 : decode cX6_distanceOf 73 = .ok (.baload, 1) := by decide +kernel
theorem dX6_distanceOf_74 : decode cX6_distanceOf 74 = .ok (.if_icmp .ne 7, 3) := by decide +kernel
theorem dX6_distanceOf_77 : decode cX6_distanceOf 77 = .ok (.iconst 0, 1) := by decide +kernel
theorem dX6_distanceOf_78 : decode cX6_distanceOf 78 = .ok (.goto 4, 3) := by decide +kernel
theorem dX6_distanceOf_81 : decode cX6_distanceOf 81 = .ok (.iconst 1, 1) := by decide +kernel
theorem dX6_distanceOf_82 : decode cX6_distanceOf 82 = .ok (.istore 6, 2) := by decide +kernel
theorem dX6_distanceOf_84 : decode cX6_distanceOf 84 = .ok (.aload_n 0, 1) := by decide +kernel
theorem dX6_distanceOf_85 : decode cX6_distanceOf 85 = .ok (.getfield 61, 3) := by decide +kernel
theorem dX6_distanceOf_88 : decode cX6_distanceOf 88 = .ok (.bipush 13, 2) := by decide +kernel
theorem dX6_distanceOf_90 : decode cX6_distanceOf 90 = .ok (.iload_n 3, 1) := by decide +kernel
theorem dX6_distanceOf_91 : decode cX6_distanceOf 91 = .ok (.iconst 1, 1) := by decide +kernel
theorem dX6_distanceOf_92 : decode cX6_distanceOf 92 = .ok (.isub, 1) := by decide +kernel
theorem dX6_distanceOf_93 : decode cX6_distanceOf 93 = .ok (.imul, 1) := by decide +kernel
theorem dX6_distanceOf_94 : decode cX6_distanceOf 94 = .ok (.iload 4, 2) := by decide +kernel
theorem dX6_distanceOf_96 : decode cX6_distanceOf 96 = .ok (.iadd, 1) := by decide +kernel
theorem dX6_distanceOf_97 : decode cX6_distanceOf 97 = .ok (.iconst 1, 1) := by decide +kernel
theorem dX6_distanceOf_98 : decode cX6_distanceOf 98 = .ok (.isub, 1) := by decide +kernel
theorem dX6_distanceOf_99 : decode cX6_distanceOf 99 = .ok (.iaload, 1) := by decide +kernel
theorem dX6_distanceOf_100 : decode cX6_distanceOf 100 = .ok (.iload 6, 2) := by decide +kernel
theorem dX6_distanceOf_102 : decode cX6_distanceOf 102 = .ok (.iadd, 1) := by decide +kernel
theorem dX6_distanceOf_103 : decode cX6_distanceOf 103 = .ok (.iconst 1, 1) := by decide +kernel
theorem dX6_distanceOf_104 : decode cX6_distanceOf 104 = .ok (.aload_n 0, 1) := by decide +kernel
theorem dX6_distanceOf_105 : decode cX6_distanceOf 105 = .ok (.getfield 61, 3) := by decide +kernel
theorem dX6_distanceOf_108 : decode cX6_distanceOf 108 = .ok (.bipush 13, 2) := by decide +kernel
theorem dX6_distanceOf_110 : decode cX6_distanceOf 110 = .ok (.iload_n 3, 1) := by decide +kernel
theorem dX6_distanceOf_111 : decode cX6_distanceOf 111 = .ok (.iconst 1, 1) := by decide +kernel
theorem dX6_distanceOf_112 : decode cX6_distanceOf 112 = .ok (.isub, 1) := by decide +kernel
theorem dX6_distanceOf_113 : decode cX6_distanceOf 113 = .ok (.imul, 1) := by decide +kernel
theorem dX6_distanceOf_114 : decode cX6_distanceOf 114 = .ok (.iload 4, 2) := by decide +kernel
theorem dX6_distanceOf_116 : decode cX6_distanceOf 116 = .ok (.iadd, 1) := by decide +kernel
theorem dX6_distanceOf_117 : decode cX6_distanceOf 117 = .ok (.iaload, 1) := by decide +kernel
theorem dX6_distanceOf_118 : decode cX6_distanceOf 118 = .ok (.aload_n 0, 1) := by decide +kernel
theorem dX6_distanceOf_119 : decode cX6_distanceOf 119 = .ok (.getfield 61, 3) := by decide +kernel
theorem dX6_distanceOf_122 : decode cX6_distanceOf 122 = .ok (.bipush 13, 2) := by decide +kernel
theorem dX6_distanceOf_124 : decode cX6_distanceOf 124 = .ok (.iload_n 3, 1) := by decide +kernel
theorem dX6_distanceOf_125 : decode cX6_distanceOf 125 = .ok (.imul, 1) := by decide +kernel
theorem dX6_distanceOf_126 : decode cX6_distanceOf 126 = .ok (.iload 4, 2) := by decide +kernel
theorem dX6_distanceOf_128 : decode cX6_distanceOf 128 = .ok (.iadd, 1) := by decide +kernel
theorem dX6_distanceOf_129 : decode cX6_distanceOf 129 = .ok (.iconst 1, 1) := by decide +kernel
theorem dX6_distanceOf_130 : decode cX6_distanceOf 130 = .ok (.isub, 1) := by decide +kernel
theorem dX6_distanceOf_131 : decode cX6_distanceOf 131 = .ok (.iaload, 1) := by decide +kernel
theorem dX6_distanceOf_132 : decode cX6_distanceOf 132 = .ok (.invokestatic 193, 3) := by decide +kernel
theorem dX6_distanceOf_135 : decode cX6_distanceOf 135 = .ok (.iadd, 1) := by decide +kernel
theorem dX6_distanceOf_136 : decode cX6_distanceOf 136 = .ok (.invokestatic 193, 3) := by decide +kernel
theorem dX6_distanceOf_139 : decode cX6_distanceOf 139 = .ok (.istore 5, 2) := by decide +kernel
theorem dX6_distanceOf_141 : decode cX6_distanceOf 141 = .ok (.aload_n 0, 1) := by decide +kernel
theorem dX6_distanceOf_142 : decode cX6_distanceOf 142 = .ok (.getfield 61, 3) := by decide +kernel
theorem dX6_distanceOf_145 : decode cX6_distanceOf 145 = .ok (.bipush 13, 2) := by decide +kernel
theorem dX6_distanceOf_147 : decode cX6_distanceOf 147 = .ok (.iload_n 3, 1) := by decide +kernel
theorem dX6_distanceOf_148 : decode cX6_distanceOf 148 = .ok (.imul, 1) := by decide +kernel
theorem dX6_distanceOf_149 : decode cX6_distanceOf 149 = .ok (.iload 4, 2) := by decide +kernel
theorem dX6_distanceOf_151 : decode cX6_distanceOf 151 = .ok (.iadd, 1) := by decide +kernel
theorem dX6_distanceOf_152 : decode cX6_distanceOf 152 = .ok (.iload 5, 2) := by decide +kernel
theorem dX6_distanceOf_154 : decode cX6_distanceOf 154 = .ok (.iastore, 1) := by decide +kernel
theorem dX6_distanceOf_155 : decode cX6_distanceOf 155 = .ok (.iinc 4 1, 3) := by decide +kernel
theorem dX6_distanceOf_158 : decode cX6_distanceOf 158 = .ok (.goto (-143), 3) := by decide +kernel
theorem dX6_distanceOf_161 : decode cX6_distanceOf 161 = .ok (.iinc 3 1, 3) := by decide +kernel
theorem dX6_distanceOf_164 : decode cX6_distanceOf 164 = .ok (.goto (-162), 3) := by decide +kernel
theorem dX6_distanceOf_167 : decode cX6_distanceOf 167 = .ok (.aload_n 0, 1) := by decide +kernel
theorem dX6_distanceOf_168 : decode cX6_distanceOf 168 = .ok (.getfield 61, 3) := by decide +kernel
theorem dX6_distanceOf_171 : decode cX6_distanceOf 171 = .ok (.bipush 13, 2) := by decide +kernel
theorem dX6_distanceOf_173 : decode cX6_distanceOf 173 = .ok (.aload_n 0, 1) := by decide +kernel
theorem dX6_distanceOf_174 : decode cX6_distanceOf 174 = .ok (.getfield 43, 3) := by decide +kernel
theorem dX6_distanceOf_177 : decode cX6_distanceOf 177 = .ok (.iload_n 1, 1) := by decide +kernel
theorem dX6_distanceOf_178 : decode cX6_distanceOf 178 = .ok (.iaload, 1) := by decide +kernel
theorem dX6_distanceOf_179 : decode cX6_distanceOf 179 = .ok (.imul, 1) := by decide +kernel
theorem dX6_distanceOf_180 : decode cX6_distanceOf 180 = .ok (.aload_n 0, 1) := by decide +kernel
theorem dX6_distanceOf_181 : decode cX6_distanceOf 181 = .ok (.getfield 43, 3) := by decide +kernel
theorem dX6_distanceOf_184 : decode cX6_distanceOf 184 = .ok (.iload_n 2, 1) := by decide +kernel
theorem dX6_distanceOf_185 : decode cX6_distanceOf 185 = .ok (.iaload, 1) := by decide +kernel
theorem dX6_distanceOf_186 : decode cX6_distanceOf 186 = .ok (.iadd, 1) := by decide +kernel
theorem dX6_distanceOf_187 : decode cX6_distanceOf 187 = .ok (.iaload, 1) := by decide +kernel
theorem dX6_distanceOf_188 : decode cX6_distanceOf 188 = .ok (.ireturn, 1) := by decide +kernel
theorem dX6_distance_0 : decode cX6_distance 0 = .ok (.aload_n 0, 1) := by decide +kernel
theorem dX6_distance_1 : decode cX6_distance 1 = .ok (.iload_n 1, 1) := by decide +kernel
theorem dX6_distance_2 : decode cX6_distance 2 = .ok (.iload_n 2, 1) := by decide +kernel
theorem dX6_distance_3 : decode cX6_distance 3 = .ok (.invokevirtual 149, 3) := by decide +kernel
theorem dX6_distance_6 : decode cX6_distance 6 = .ok (.ifCond .eq 31, 3) := by decide +kernel
theorem dX6_distance_9 : decode cX6_distance 9 = .ok (.aload_n 0, 1) := by decide +kernel
theorem dX6_distance_10 : decode cX6_distance 10 = .ok (.iload_n 1, 1) := by decide +kernel
theorem dX6_distance_11 : decode cX6_distance 11 = .ok (.iload_n 3, 1) := by decide +kernel
theorem dX6_distance_12 : decode cX6_distance 12 = .ok (.invokevirtual 149, 3) := by decide +kernel
theorem dX6_distance_15 : decode cX6_distance 15 = .ok (.ifCond .eq 22, 3) := by decide +kernel
theorem dX6_distance_18 : decode cX6_distance 18 = .ok (.aload_n 0, 1) := by decide +kernel
theorem dX6_distance_19 : decode cX6_distance 19 = .ok (.bipush 24, 2) := by decide +kernel
theorem dX6_distance_21 : decode cX6_distance 21 = .ok (.iload_n 1, 1) := by decide +kernel
theorem dX6_distance_22 : decode cX6_distance 22 = .ok (.imul, 1) := by decide +kernel
theorem dX6_distance_23 : decode cX6_distance 23 = .ok (.iload_n 2, 1) := by decide +kernel
theorem dX6_distance_24 : decode cX6_distance 24 = .ok (.iadd, 1) := by decide +kernel
theorem dX6_distance_25 : decode cX6_distance 25 = .ok (.bipush 24, 2) := by decide +kernel
theorem dX6_distance_27 : decode cX6_distance 27 = .ok (.iload_n 1, 1) := by decide +kernel
theorem dX6_distance_28 : decode cX6_distance 28 = .ok (.imul, 1) := by decide +kernel
theorem dX6_distance_29 : decode cX6_distance 29 = .ok (.iload_n 3, 1) := by decide +kernel
theorem dX6_distance_30 : decode cX6_distance 30 = .ok (.iadd, 1) := by decide +kernel
theorem dX6_distance_31 : decode cX6_distance 31 = .ok (.invokevirtual 196, 3) := by decide +kernel
theorem dX6_distance_34 : decode cX6_distance 34 = .ok (.goto 4, 3) := by decide +kernel
theorem dX6_distance_37 : decode cX6_distance 37 = .ok (.iconst (-1), 1) := by decide +kernel
theorem dX6_distance_38 : decode cX6_distance 38 = .ok (.ireturn, 1) := by decide +kernel
theorem dX6_hangs_0 : decode cX6_hangs 0 = .ok (.iconst 0, 1) := by decide +kernel
theorem dX6_hangs_1 : decode cX6_hangs 1 = .ok (.istore_n 3, 1) := by decide +kernel
theorem dX6_hangs_2 : decode cX6_hangs 2 = .ok (.iload_n 3, 1) := by decide +kernel
theorem dX6_hangs_3 : decode cX6_hangs 3 = .ok (.bipush 24, 2) := by decide +kernel
theorem dX6_hangs_5 : decode cX6_hangs 5 = .ok (.if_icmp .ge 16, 3) := by decide +kernel
theorem dX6_hangs_8 : decode cX6_hangs 8 = .ok (.aload_n 0, 1) := by decide +kernel
theorem dX6_hangs_9 : decode cX6_hangs 9 = .ok (.getfield 64, 3) := by decide +kernel
theorem dX6_hangs_12 : decode cX6_hangs 12 = .ok (.iload_n 3, 1) := by decide +kernel
theorem dX6_hangs_13 : decode cX6_hangs 13 = .ok (.iload_n 3, 1) := by decide +kernel
theorem dX6_hangs_14 : decode cX6_hangs 14 = .ok (.iastore, 1) := by decide +kernel
theorem dX6_hangs_15 : decode cX6_hangs 15 = .ok (.iinc 3 1, 3) := by decide +kernel
theorem dX6_hangs_18 : decode cX6_hangs 18 = .ok (.goto (-16), 3) := by decide +kernel
theorem dX6_hangs_21 : decode cX6_hangs 21 = .ok (.iconst 1, 1) := by decide +kernel
theorem dX6_hangs_22 : decode cX6_hangs 22 = .ok (.istore_n 3, 1) := by decide +kernel
theorem dX6_hangs_23 : decode cX6_hangs 23 = .ok (.iload_n 3, 1) := by decide +kernel
theorem dX6_hangs_24 : decode cX6_hangs 24 = .ok (.ifCond .eq 128, 3) := by decide +kernel
theorem dX6_hangs_27 : decode cX6_hangs 27 = .ok (.iconst 0, 1) := by decide +kernel
theorem dX6_hangs_28 : decode cX6_hangs 28 = .ok (.istore_n 3, 1) := by decide +kernel
theorem dX6_hangs_29 : decode cX6_hangs 29 = .ok (.iconst 0, 1) := by decide +kernel
theorem dX6_hangs_30 : decode cX6_hangs 30 = .ok (.istore 4, 2) := by decide +kernel
theorem dX6_hangs_32 : decode cX6_hangs 32 = .ok (.iload 4, 2) := by decide +kernel
theorem dX6_hangs_34 : decode cX6_hangs 34 = .ok (.bipush 24, 2) := by decide +kernel
theorem dX6_hangs_36 : decode cX6_hangs 36 = .ok (.if_icmp .ge 113, 3) := by decide +kernel
theorem dX6_hangs_39 : decode cX6_hangs 39 = .ok (.iconst 0, 1) := by decide +kernel
theorem dX6_hangs_40 : decode cX6_hangs 40 = .ok (.istore 5, 2) := by decide +kernel
theorem dX6_hangs_42 : decode cX6_hangs 42 = .ok (.iload 5, 2) := by decide +kernel
theorem dX6_hangs_44 : decode cX6_hangs 44 = .ok (.bipush 24, 2) := by decide +kernel
theorem dX6_hangs_46 : decode cX6_hangs 46 = .ok (.if_icmp .ge 97, 3) := by decide +kernel
theorem dX6_hangs_49 : decode cX6_hangs 49 = .ok (.aload_n 0, 1) := by decide +kernel
theorem dX6_hangs_50 : decode cX6_hangs 50 = .ok (.getfield 64, 3) := by decide +kernel
theorem dX6_hangs_53 : decode cX6_hangs 53 = .ok (.iload 5, 2) := by decide +kernel
theorem dX6_hangs_55 : decode cX6_hangs 55 = .ok (.iaload, 1) := by decide +kernel
theorem dX6_hangs_56 : decode cX6_hangs 56 = .ok (.aload_n 0, 1) := by decide +kernel
theorem dX6_hangs_57 : decode cX6_hangs 57 = .ok (.getfield 64, 3) := by decide +kernel
theorem dX6_hangs_60 : decode cX6_hangs 60 = .ok (.iload 4, 2) := by decide +kernel
theorem dX6_hangs_62 : decode cX6_hangs 62 = .ok (.iaload, 1) := by decide +kernel
theorem dX6_hangs_63 : decode cX6_hangs 63 = .ok (.if_icmp .ge 74, 3) := by decide +kernel
theorem dX6_hangs_66 : decode cX6_hangs 66 = .ok (.aload_n 0, 1) := by decide +kernel
theorem dX6_hangs_67 : decode cX6_hangs 67 = .ok (.getfield 27, 3) := by decide +kernel
theorem dX6_hangs_70 : decode cX6_hangs 70 = .ok (.bipush 24, 2) := by decide +kernel
theorem dX6_hangs_72 : decode cX6_hangs 72 = .ok (.iload_n 1, 1) := by decide +kernel
theorem dX6_hangs_73 : decode cX6_hangs 73 = .ok (.imul, 1) := by decide +kernel
theorem dX6_hangs_74 : decode cX6_hangs 74 = .ok (.iload 4, 2) := by decide +kernel
theorem dX6_hangs_76 : decode cX6_hangs 76 = .ok (.iadd, 1) := by decide +kernel
theorem dX6_hangs_77 : decode cX6_hangs 77 = .ok (.baload, 1) := by decide +kernel
theorem dX6_hangs_78 : decode cX6_hangs 78 = .ok (.ifCond .eq 59, 3) := by decide +kernel
theorem dX6_hangs_81 : decode cX6_hangs 81 = .ok (.aload_n 0, 1) := by decide +kernel
theorem dX6_hangs_82 : decode cX6_hangs 82 = .ok (.getfield 27, 3) := by decide +kernel
theorem dX6_hangs_85 : decode cX6_hangs 85 = .ok (.bipush 24, 2) := by decide +kernel
theorem dX6_hangs_87 : decode cX6_hangs 87 = .ok (.iload_n 1, 1) := by decide +kernel
theorem dX6_hangs_88 : decode cX6_hangs 88 = .ok (.imul, 1) := by decide +kernel
theorem dX6_hangs_89 : decode cX6_hangs 89 = .ok (.iload 5, 2) := by decide +kernel
theorem dX6_hangs_91 : decode cX6_hangs 91 = .ok (.iadd, 1) := by decide +kernel
theorem dX6_hangs_92 : decode cX6_hangs 92 = .ok (.baload, 1) := by decide +kernel
theorem dX6_hangs_93 : decode cX6_hangs 93 = .ok (.ifCond .eq 44, 3) := by decide +kernel
theorem dX6_hangs_96 : decode cX6_hangs 96 = .ok (.aload_n 0, 1) := by decide +kernel
theorem dX6_hangs_97 : decode cX6_hangs 97 = .ok (.bipush 24, 2) := by decide +kernel
theorem dX6_hangs_99 : decode cX6_hangs 99 = .ok (.iload_n 1, 1) := by decide +kernel
theorem dX6_hangs_100 : decode cX6_hangs 100 = .ok (.imul, 1) := by decide +kernel
theorem dX6_hangs_101 : decode cX6_hangs 101 = .ok (.iload 4, 2) := by decide +kernel
theorem dX6_hangs_103 : decode cX6_hangs 103 = .ok (.iadd, 1) := by decide +kernel
theorem dX6_hangs_104 : decode cX6_hangs 104 = .ok (.bipush 24, 2) := by decide +kernel
theorem dX6_hangs_106 : decode cX6_hangs 106 = .ok (.iload_n 1, 1) := by decide +kernel
theorem dX6_hangs_107 : decode cX6_hangs 107 = .ok (.imul, 1) := by decide +kernel
theorem dX6_hangs_108 : decode cX6_hangs 108 = .ok (.iload 5, 2) := by decide +kernel
theorem dX6_hangs_110 : decode cX6_hangs 110 = .ok (.iadd, 1) := by decide +kernel
theorem dX6_hangs_111 : decode cX6_hangs 111 = .ok (.invokevirtual 196, 3) := by decide +kernel
theorem dX6_hangs_114 : decode cX6_hangs 114 = .ok (.iload_n 2, 1) := by decide +kernel
theorem dX6_hangs_115 : decode cX6_hangs 115 = .ok (.if_icmp .le 6, 3) := by decide +kernel
theorem dX6_hangs_118 : decode cX6_hangs 118 = .ok (.goto 19, 3) := by decide +kernel
theorem dX6_hangs_121 : decode cX6_hangs 121 = .ok (.aload_n 0, 1) := by decide +kernel
theorem dX6_hangs_122 : decode cX6_hangs 122 = .ok (.getfield 64, 3) := by decide +kernel
theorem dX6_hangs_125 : decode cX6_hangs 125 = .ok (.iload 4, 2) := by decide +kernel
theorem dX6_hangs_127 : decode cX6_hangs 127 = .ok (.aload_n 0, 1) := by decide +kernel
theorem dX6_hangs_128 : decode cX6_hangs 128 = .ok (.getfield 64, 3) := by decide +kernel
theorem dX6_hangs_131 : decode cX6_hangs 131 = .ok (.iload 5, 2) := by decide +kernel
theorem dX6_hangs_133 : decode cX6_hangs 133 = .ok (.iaload, 1) := by decide +kernel
theorem dX6_hangs_134 : decode cX6_hangs 134 = .ok (.iastore, 1) := by decide +kernel
theorem dX6_hangs_135 : decode cX6_hangs 135 = .ok (.iconst 1, 1) := by decide +kernel
theorem dX6_hangs_136 : decode cX6_hangs 136 = .ok (.istore_n 3, 1) := by decide +kernel
theorem dX6_hangs_137 : decode cX6_hangs 137 = .ok (.iinc 5 1, 3) := by decide +kernel
theorem dX6_hangs_140 : decode cX6_hangs 140 = .ok (.goto (-98), 3) := by decide +kernel
theorem dX6_hangs_143 : decode cX6_hangs 143 = .ok (.iinc 4 1, 3) := by decide +kernel
theorem dX6_hangs_146 : decode cX6_hangs 146 = .ok (.goto (-114), 3) := by decide +kernel
theorem dX6_hangs_149 : decode cX6_hangs 149 = .ok (.goto (-126), 3) := by decide +kernel
theorem dX6_hangs_152 : decode cX6_hangs 152 = .ok (.return_, 1) := by decide +kernel
theorem dX6_heaps_0 : decode cX6_heaps 0 = .ok (.aload_n 0, 1) := by decide +kernel
theorem dX6_heaps_1 : decode cX6_heaps 1 = .ok (.iload_n 1, 1) := by decide +kernel
theorem dX6_heaps_2 : decode cX6_heaps 2 = .ok (.invokevirtual 145, 3) := by decide +kernel
theorem dX6_heaps_5 : decode cX6_heaps 5 = .ok (.ifCond .eq 13, 3) := by decide +kernel
theorem dX6_heaps_8 : decode cX6_heaps 8 = .ok (.iload_n 2, 1) := by decide +kernel
theorem dX6_heaps_9 : decode cX6_heaps 9 = .ok (.iconst 0, 1) := by decide +kernel
theorem dX6_heaps_10 : decode cX6_heaps 10 = .ok (.bipush 24, 2) := by decide +kernel
theorem dX6_heaps_12 : decode cX6_heaps 12 = .ok (.invokestatic 84, 3) := by decide +kernel
theorem dX6_heaps_15 : decode cX6_heaps 15 = .ok (.ifCond .ne 5, 3) := by decide +kernel
theorem dX6_heaps_18 : decode cX6_heaps 18 = .ok (.iconst (-1), 1) := by decide +kernel
theorem dX6_heaps_19 : decode cX6_heaps 19 = .ok (.ireturn, 1) := by decide +kernel
theorem dX6_heaps_20 : decode cX6_heaps 20 = .ok (.aload_n 0, 1) := by decide +kernel
theorem dX6_heaps_21 : decode cX6_heaps 21 = .ok (.iload_n 1, 1) := by decide +kernel
theorem dX6_heaps_22 : decode cX6_heaps 22 = .ok (.iload_n 2, 1) := by decide +kernel
theorem dX6_heaps_23 : decode cX6_heaps 23 = .ok (.invokevirtual 199, 3) := by decide +kernel
theorem dX6_heaps_26 : decode cX6_heaps 26 = .ok (.iconst 0, 1) := by decide +kernel
theorem dX6_heaps_27 : decode cX6_heaps 27 = .ok (.istore_n 3, 1) := by decide +kernel
theorem dX6_heaps_28 : decode cX6_heaps 28 = .ok (.iconst 0, 1) := by decide +kernel
theorem dX6_heaps_29 : decode cX6_heaps 29 = .ok (.istore 4, 2) := by decide +kernel
theorem dX6_heaps_31 : decode cX6_heaps 31 = .ok (.iload 4, 2) := by decide +kernel
theorem dX6_heaps_33 : decode cX6_heaps 33 = .ok (.bipush 24, 2) := by decide +kernel
theorem dX6_heaps_35 : decode cX6_heaps 35 = .ok (.if_icmp .ge 44, 3) := by decide +kernel
theorem dX6_heaps_38 : decode cX6_heaps 38 = .ok (.iload_n 3, 1) := by decide +kernel
theorem dX6_heaps_39 : decode cX6_heaps 39 = .ok (.aload_n 0, 1) := by decide +kernel
theorem dX6_heaps_40 : decode cX6_heaps 40 = .ok (.getfield 27, 3) := by decide +kernel
theorem dX6_heaps_43 : decode cX6_heaps 43 = .ok (.bipush 24, 2) := by decide +kernel
theorem dX6_heaps_45 : decode cX6_heaps 45 = .ok (.iload_n 1, 1) := by decide +kernel
theorem dX6_heaps_46 : decode cX6_heaps 46 = .ok (.imul, 1) := by decide +kernel
theorem dX6_heaps_47 : decode cX6_heaps 47 = .ok (.iload 4, 2) := by decide +kernel
theorem dX6_heaps_49 : decode cX6_heaps 49 = .ok (.iadd, 1) := by decide +kernel
theorem dX6_heaps_50 : decode cX6_heaps 50 = .ok (.baload, 1) := by decide +kernel
theorem dX6_heaps_51 : decode cX6_heaps 51 = .ok (.ifCond .eq 19, 3) := by decide +kernel
theorem dX6_heaps_54 : decode cX6_heaps 54 = .ok (.aload_n 0, 1) := by decide +kernel
theorem dX6_heaps_55 : decode cX6_heaps 55 = .ok (.getfield 64, 3) := by decide +kernel
theorem dX6_heaps_58 : decode cX6_heaps 58 = .ok (.iload 4, 2) := by decide +kernel
theorem dX6_heaps_60 : decode cX6_heaps 60 = .ok (.iaload, 1) := by decide +kernel
theorem dX6_heaps_61 : decode cX6_heaps 61 = .ok (.iload 4, 2) := by decide +kernel
theorem dX6_heaps_63 : decode cX6_heaps 63 = .ok (.if_icmp .ne 7, 3) := by decide +kernel
theorem dX6_heaps_66 : decode cX6_heaps 66 = .ok (.iconst 1, 1) := by decide +kernel
theorem dX6_heaps_67 : decode cX6_heaps 67 = .ok (.goto 4, 3) := by decide +kernel
theorem dX6_heaps_70 : decode cX6_heaps 70 = .ok (.iconst 0, 1) := by decide +kernel
theorem dX6_heaps_71 : decode cX6_heaps 71 = .ok (.iadd, 1) := by decide +kernel
theorem dX6_heaps_72 : decode cX6_heaps 72 = .ok (.istore_n 3, 1) := by decide +kernel
theorem dX6_heaps_73 : decode cX6_heaps 73 = .ok (.iinc 4 1, 3) := by decide +kernel
theorem dX6_heaps_76 : decode cX6_heaps 76 = .ok (.goto (-45), 3) := by decide +kernel
theorem dX6_heaps_79 : decode cX6_heaps 79 = .ok (.iload_n 3, 1) := by decide +kernel
theorem dX6_heaps_80 : decode cX6_heaps 80 = .ok (.ireturn, 1) := by decide +kernel
theorem dX6_heap_0 : decode cX6_heap 0 = .ok (.aload_n 0, 1) := by decide +kernel
theorem dX6_heap_1 : decode cX6_heap 1 = .ok (.iload_n 1, 1) := by decide +kernel
theorem dX6_heap_2 : decode cX6_heap 2 = .ok (.iload_n 3, 1) := by decide +kernel
theorem dX6_heap_3 : decode cX6_heap 3 = .ok (.invokevirtual 149, 3) := by decide +kernel
theorem dX6_heap_6 : decode cX6_heap 6 = .ok (.ifCond .eq 13, 3) := by decide +kernel
theorem dX6_heap_9 : decode cX6_heap 9 = .ok (.iload_n 2, 1) := by decide +kernel
theorem dX6_heap_10 : decode cX6_heap 10 = .ok (.iconst 0, 1) := by decide +kernel
theorem dX6_heap_11 : decode cX6_heap 11 = .ok (.bipush 24, 2) := by decide +kernel
theorem dX6_heap_13 : decode cX6_heap 13 = .ok (.invokestatic 84, 3) := by decide +kernel
theorem dX6_heap_16 : decode cX6_heap 16 = .ok (.ifCond .ne 5, 3) := by decide +kernel
theorem dX6_heap_19 : decode cX6_heap 19 = .ok (.iconst (-1), 1) := by decide +kernel
theorem dX6_heap_20 : decode cX6_heap 20 = .ok (.ireturn, 1) := by decide +kernel
theorem dX6_heap_21 : decode cX6_heap 21 = .ok (.aload_n 0, 1) := by decide +kernel
theorem dX6_heap_22 : decode cX6_heap 22 = .ok (.iload_n 1, 1) := by decide +kernel
theorem dX6_heap_23 : decode cX6_heap 23 = .ok (.iload_n 2, 1) := by decide +kernel
theorem dX6_heap_24 : decode cX6_heap 24 = .ok (.invokevirtual 199, 3) := by decide +kernel
theorem dX6_heap_27 : decode cX6_heap 27 = .ok (.aload_n 0, 1) := by decide +kernel
theorem dX6_heap_28 : decode cX6_heap 28 = .ok (.getfield 64, 3) := by decide +kernel
theorem dX6_heap_31 : decode cX6_heap 31 = .ok (.iload_n 3, 1) := by decide +kernel
theorem dX6_heap_32 : decode cX6_heap 32 = .ok (.iaload, 1) := by decide +kernel
theorem dX6_heap_33 : decode cX6_heap 33 = .ok (.ireturn, 1) := by decide +kernel
theorem dX6_order_0 : decode cX6_order 0 = .ok (.iconst 0, 1) := by decide +kernel
theorem dX6_order_1 : decode cX6_order 1 = .ok (.istore_n 2, 1) := by decide +kernel
theorem dX6_order_2 : decode cX6_order 2 = .ok (.iload_n 2, 1) := by decide +kernel
theorem dX6_order_3 : decode cX6_order 3 = .ok (.aload_n 0, 1) := by decide +kernel
theorem dX6_order_4 : decode cX6_order 4 = .ok (.getfield 136, 3) := by decide +kernel
theorem dX6_order_7 : decode cX6_order 7 = .ok (.if_icmp .ge 60, 3) := by decide +kernel
theorem dX6_order_10 : decode cX6_order 10 = .ok (.iconst 0, 1) := by decide +kernel
theorem dX6_order_11 : decode cX6_order 11 = .ok (.istore_n 3, 1) := by decide +kernel
theorem dX6_order_12 : decode cX6_order 12 = .ok (.iconst 0, 1) := by decide +kernel
theorem dX6_order_13 : decode cX6_order 13 = .ok (.istore 4, 2) := by decide +kernel
theorem dX6_order_15 : decode cX6_order 15 = .ok (.iload 4, 2) := by decide +kernel
theorem dX6_order_17 : decode cX6_order 17 = .ok (.aload_n 0, 1) := by decide +kernel
theorem dX6_order_18 : decode cX6_order 18 = .ok (.getfield 136, 3) := by decide +kernel
theorem dX6_order_21 : decode cX6_order 21 = .ok (.if_icmp .ge 33, 3) := by decide +kernel
theorem dX6_order_24 : decode cX6_order 24 = .ok (.iload_n 3, 1) := by decide +kernel
theorem dX6_order_25 : decode cX6_order 25 = .ok (.aload_n 0, 1) := by decide +kernel
theorem dX6_order_26 : decode cX6_order 26 = .ok (.getfield 20, 3) := by decide +kernel
theorem dX6_order_29 : decode cX6_order 29 = .ok (.iload 4, 2) := by decide +kernel
theorem dX6_order_31 : decode cX6_order 31 = .ok (.iaload, 1) := by decide +kernel
theorem dX6_order_32 : decode cX6_order 32 = .ok (.aload_n 0, 1) := by decide +kernel
theorem dX6_order_33 : decode cX6_order 33 = .ok (.getfield 20, 3) := by decide +kernel
theorem dX6_order_36 : decode cX6_order 36 = .ok (.iload_n 2, 1) := by decide +kernel
theorem dX6_order_37 : decode cX6_order 37 = .ok (.iaload, 1) := by decide +kernel
theorem dX6_order_38 : decode cX6_order 38 = .ok (.if_icmp .ge 7, 3) := by decide +kernel
theorem dX6_order_41 : decode cX6_order 41 = .ok (.iconst 1, 1) := by decide +kernel
theorem dX6_order_42 : decode cX6_order 42 = .ok (.goto 4, 3) := by decide +kernel
theorem dX6_order_45 : decode cX6_order 45 = .ok (.iconst 0, 1) := by decide +kernel
theorem dX6_order_46 : decode cX6_order 46 = .ok (.iadd, 1) := by decide +kernel
theorem dX6_order_47 : decode cX6_order 47 = .ok (.istore_n 3, 1) := by decide +kernel
theorem dX6_order_48 : decode cX6_order 48 = .ok (.iinc 4 1, 3) := by decide +kernel
theorem dX6_order_51 : decode cX6_order 51 = .ok (.goto (-36), 3) := by decide +kernel
theorem dX6_order_54 : decode cX6_order 54 = .ok (.iload_n 3, 1) := by decide +kernel
theorem dX6_order_55 : decode cX6_order 55 = .ok (.iload_n 1, 1) := by decide +kernel
theorem dX6_order_56 : decode cX6_order 56 = .ok (.if_icmp .ne 5, 3) := by decide +kernel
theorem dX6_order_59 : decode cX6_order 59 = .ok (.iload_n 2, 1) := by decide +kernel
theorem dX6_order_60 : decode cX6_order 60 = .ok (.ireturn, 1) := by decide +kernel
theorem dX6_order_61 : decode cX6_order 61 = .ok (.iinc 2 1, 3) := by decide +kernel
theorem dX6_order_64 : decode cX6_order 64 = .ok (.goto (-62), 3) := by decide +kernel
theorem dX6_order_67 : decode cX6_order 67 = .ok (.iconst (-1), 1) := by decide +kernel
theorem dX6_order_68 : decode cX6_order 68 = .ok (.ireturn, 1) := by decide +kernel
theorem dX6_count_0 : decode cX6_count 0 = .ok (.iload_n 1, 1) := by decide +kernel
theorem dX6_count_1 : decode cX6_count 1 = .ok (.iconst (-1), 1) := by decide +kernel
theorem dX6_count_2 : decode cX6_count 2 = .ok (.if_icmp .ne 52, 3) := by decide +kernel
theorem dX6_count_5 : decode cX6_count 5 = .ok (.iload_n 2, 1) := by decide +kernel
theorem dX6_count_6 : decode cX6_count 6 = .ok (.ifCond .ne 10, 3) := by decide +kernel
theorem dX6_count_9 : decode cX6_count 9 = .ok (.aload_n 0, 1) := by decide +kernel
theorem dX6_count_10 : decode cX6_count 10 = .ok (.getfield 136, 3) := by decide +kernel
theorem dX6_count_13 : decode cX6_count 13 = .ok (.goto 40, 3) := by decide +kernel
theorem dX6_count_16 : decode cX6_count 16 = .ok (.iload_n 2, 1) := by decide +kernel
theorem dX6_count_17 : decode cX6_count 17 = .ok (.iconst 1, 1) := by decide +kernel
theorem dX6_count_18 : decode cX6_count 18 = .ok (.if_icmp .ne 10, 3) := by decide +kernel
theorem dX6_count_21 : decode cX6_count 21 = .ok (.aload_n 0, 1) := by decide +kernel
theorem dX6_count_22 : decode cX6_count 22 = .ok (.getfield 67, 3) := by decide +kernel
theorem dX6_count_25 : decode cX6_count 25 = .ok (.goto 28, 3) := by decide +kernel
theorem dX6_count_28 : decode cX6_count 28 = .ok (.iload_n 2, 1) := by decide +kernel
theorem dX6_count_29 : decode cX6_count 29 = .ok (.iconst 2, 1) := by decide +kernel
theorem dX6_count_30 : decode cX6_count 30 = .ok (.if_icmp .ne 10, 3) := by decide +kernel
theorem dX6_count_33 : decode cX6_count 33 = .ok (.aload_n 0, 1) := by decide +kernel
theorem dX6_count_34 : decode cX6_count 34 = .ok (.getfield 13, 3) := by decide +kernel
theorem dX6_count_37 : decode cX6_count 37 = .ok (.goto 16, 3) := by decide +kernel
theorem dX6_count_40 : decode cX6_count 40 = .ok (.iload_n 2, 1) := by decide +kernel
theorem dX6_count_41 : decode cX6_count 41 = .ok (.iconst 3, 1) := by decide +kernel
theorem dX6_count_42 : decode cX6_count 42 = .ok (.if_icmp .ne 10, 3) := by decide +kernel
theorem dX6_count_45 : decode cX6_count 45 = .ok (.aload_n 0, 1) := by decide +kernel
theorem dX6_count_46 : decode cX6_count 46 = .ok (.getfield 17, 3) := by decide +kernel
theorem dX6_count_49 : decode cX6_count 49 = .ok (.goto 4, 3) := by decide +kernel
theorem dX6_count_52 : decode cX6_count 52 = .ok (.iconst (-1), 1) := by decide +kernel
theorem dX6_count_53 : decode cX6_count 53 = .ok (.ireturn, 1) := by decide +kernel
theorem dX6_count_54 : decode cX6_count 54 = .ok (.aload_n 0, 1) := by decide +kernel
theorem dX6_count_55 : decode cX6_count 55 = .ok (.iload_n 1, 1) := by decide +kernel
theorem dX6_count_56 : decode cX6_count 56 = .ok (.invokevirtual 145, 3) := by decide +kernel
theorem dX6_count_59 : decode cX6_count 59 = .ok (.ifCond .ne 5, 3) := by decide +kernel
theorem dX6_count_62 : decode cX6_count 62 = .ok (.iconst (-1), 1) := by decide +kernel
theorem dX6_count_63 : decode cX6_count 63 = .ok (.ireturn, 1) := by decide +kernel
theorem dX6_count_64 : decode cX6_count 64 = .ok (.iconst 0, 1) := by decide +kernel
theorem dX6_count_65 : decode cX6_count 65 = .ok (.istore_n 3, 1) := by decide +kernel
theorem dX6_count_66 : decode cX6_count 66 = .ok (.iload_n 2, 1) := by decide +kernel
theorem dX6_count_67 : decode cX6_count 67 = .ok (.tableswitch 169 0 3 #[29, 36, 77, 134], 29) := by decide +kernel
theorem dX6_count_96 : decode cX6_count 96 = .ok (.aload_n 0, 1) := by decide +kernel
theorem dX6_count_97 : decode cX6_count 97 = .ok (.getfield 20, 3) := by decide +kernel
theorem dX6_count_100 : decode cX6_count 100 = .ok (.iload_n 1, 1) := by decide +kernel
theorem dX6_count_101 : decode cX6_count 101 = .ok (.iaload, 1) := by decide +kernel
theorem dX6_count_102 : decode cX6_count 102 = .ok (.ireturn, 1) := by decide +kernel
theorem dX6_count_103 : decode cX6_count 103 = .ok (.iconst 0, 1) := by decide +kernel
theorem dX6_count_104 : decode cX6_count 104 = .ok (.istore 4, 2) := by decide +kernel
theorem dX6_count_106 : decode cX6_count 106 = .ok (.iload 4, 2) := by decide +kernel
theorem dX6_count_108 : decode cX6_count 108 = .ok (.bipush 24, 2) := by decide +kernel
theorem dX6_count_110 : decode cX6_count 110 = .ok (.if_icmp .ge 32, 3) := by decide +kernel
theorem dX6_count_113 : decode cX6_count 113 = .ok (.iload_n 3, 1) := by decide +kernel
theorem dX6_count_114 : decode cX6_count 114 = .ok (.aload_n 0, 1) := by decide +kernel
theorem dX6_count_115 : decode cX6_count 115 = .ok (.getfield 27, 3) := by decide +kernel
theorem dX6_count_118 : decode cX6_count 118 = .ok (.bipush 24, 2) := by decide +kernel
theorem dX6_count_120 : decode cX6_count 120 = .ok (.iload_n 1, 1) := by decide +kernel
theorem dX6_count_121 : decode cX6_count 121 = .ok (.imul, 1) := by decide +kernel
theorem dX6_count_122 : decode cX6_count 122 = .ok (.iload 4, 2) := by decide +kernel
theorem dX6_count_124 : decode cX6_count 124 = .ok (.iadd, 1) := by decide +kernel
theorem dX6_count_125 : decode cX6_count 125 = .ok (.baload, 1) := by decide +kernel
theorem dX6_count_126 : decode cX6_count 126 = .ok (.ifCond .eq 7, 3) := by decide +kernel
theorem dX6_count_129 : decode cX6_count 129 = .ok (.iconst 1, 1) := by decide +kernel
theorem dX6_count_130 : decode cX6_count 130 = .ok (.goto 4, 3) := by decide +kernel
theorem dX6_count_133 : decode cX6_count 133 = .ok (.iconst 0, 1) := by decide +kernel
theorem dX6_count_134 : decode cX6_count 134 = .ok (.iadd, 1) := by decide +kernel
theorem dX6_count_135 : decode cX6_count 135 = .ok (.istore_n 3, 1) := by decide +kernel
theorem dX6_count_136 : decode cX6_count 136 = .ok (.iinc 4 1, 3) := by decide +kernel
theorem dX6_count_139 : decode cX6_count 139 = .ok (.goto (-33), 3) := by decide +kernel
theorem dX6_count_142 : decode cX6_count 142 = .ok (.iload_n 3, 1) := by decide +kernel
theorem dX6_count_143 : decode cX6_count 143 = .ok (.ireturn, 1) := by decide +kernel
theorem dX6_count_144 : decode cX6_count 144 = .ok (.iconst 0, 1) := by decide +kernel
theorem dX6_count_145 : decode cX6_count 145 = .ok (.istore 4, 2) := by decide +kernel
theorem dX6_count_147 : decode cX6_count 147 = .ok (.iload 4, 2) := by decide +kernel
theorem dX6_count_149 : decode cX6_count 149 = .ok (.bipush 24, 2) := by decide +kernel
theorem dX6_count_151 : decode cX6_count 151 = .ok (.if_icmp .ge 48, 3) := by decide +kernel
theorem dX6_count_154 : decode cX6_count 154 = .ok (.iload_n 3, 1) := by decide +kernel
theorem dX6_count_155 : decode cX6_count 155 = .ok (.aload_n 0, 1) := by decide +kernel
theorem dX6_count_156 : decode cX6_count 156 = .ok (.getfield 27, 3) := by decide +kernel
theorem dX6_count_159 : decode cX6_count 159 = .ok (.bipush 24, 2) := by decide +kernel
theorem dX6_count_161 : decode cX6_count 161 = .ok (.iload_n 1, 1) := by decide +kernel
theorem dX6_count_162 : decode cX6_count 162 = .ok (.imul, 1) := by decide +kernel
theorem dX6_count_163 : decode cX6_count 163 = .ok (.iload 4, 2) := by decide +kernel
theorem dX6_count_165 : decode cX6_count 165 = .ok (.iadd, 1) := by decide +kernel
theorem dX6_count_166 : decode cX6_count 166 = .ok (.baload, 1) := by decide +kernel
theorem dX6_count_167 : decode cX6_count 167 = .ok (.ifCond .eq 23, 3) := by decide +kernel
theorem dX6_count_170 : decode cX6_count 170 = .ok (.aload_n 0, 1) := by decide +kernel
theorem dX6_count_171 : decode cX6_count 171 = .ok (.getfield 40, 3) := by decide +kernel
theorem dX6_count_174 : decode cX6_count 174 = .ok (.bipush 24, 2) := by decide +kernel
theorem dX6_count_176 : decode cX6_count 176 = .ok (.iload_n 1, 1) := by decide +kernel
theorem dX6_count_177 : decode cX6_count 177 = .ok (.imul, 1) := by decide +kernel
theorem dX6_count_178 : decode cX6_count 178 = .ok (.iload 4, 2) := by decide +kernel
theorem dX6_count_180 : decode cX6_count 180 = .ok (.iadd, 1) := by decide +kernel
theorem dX6_count_181 : decode cX6_count 181 = .ok (.iaload, 1) := by decide +kernel
theorem dX6_count_182 : decode cX6_count 182 = .ok (.iconst (-1), 1) := by decide +kernel
theorem dX6_count_183 : decode cX6_count 183 = .ok (.if_icmp .eq 7, 3) := by decide +kernel
theorem dX6_count_186 : decode cX6_count 186 = .ok (.iconst 1, 1) := by decide +kernel
theorem dX6_count_187 : decode cX6_count 187 = .ok (.goto 4, 3) := by decide +kernel
theorem dX6_count_190 : decode cX6_count 190 = .ok (.iconst 0, 1) := by decide +kernel
theorem dX6_count_191 : decode cX6_count 191 = .ok (.iadd, 1) := by decide +kernel
theorem dX6_count_192 : decode cX6_count 192 = .ok (.istore_n 3, 1) := by decide +kernel
theorem dX6_count_193 : decode cX6_count 193 = .ok (.iinc 4 1, 3) := by decide +kernel
theorem dX6_count_196 : decode cX6_count 196 = .ok (.goto (-49), 3) := by decide +kernel
theorem dX6_count_199 : decode cX6_count 199 = .ok (.iload_n 3, 1) := by decide +kernel
theorem dX6_count_200 : decode cX6_count 200 = .ok (.ireturn, 1) := by decide +kernel
theorem dX6_count_201 : decode cX6_count 201 = .ok (.aload_n 0, 1) := by decide +kernel
theorem dX6_count_202 : decode cX6_count 202 = .ok (.iload_n 1, 1) := by decide +kernel
theorem dX6_count_203 : decode cX6_count 203 = .ok (.invokevirtual 105, 3) := by decide +kernel
theorem dX6_count_206 : decode cX6_count 206 = .ok (.istore 4, 2) := by decide +kernel
theorem dX6_count_208 : decode cX6_count 208 = .ok (.iconst 0, 1) := by decide +kernel
theorem dX6_count_209 : decode cX6_count 209 = .ok (.istore 5, 2) := by decide +kernel
theorem dX6_count_211 : decode cX6_count 211 = .ok (.iload 5, 2) := by decide +kernel
theorem dX6_count_213 : decode cX6_count 213 = .ok (.bipush 16, 2) := by decide +kernel
theorem dX6_count_215 : decode cX6_count 215 = .ok (.if_icmp .ge 19, 3) := by decide +kernel
theorem dX6_count_218 : decode cX6_count 218 = .ok (.iload_n 3, 1) := by decide +kernel
theorem dX6_count_219 : decode cX6_count 219 = .ok (.iload 4, 2) := by decide +kernel
theorem dX6_count_221 : decode cX6_count 221 = .ok (.iload 5, 2) := by decide +kernel
theorem dX6_count_223 : decode cX6_count 223 = .ok (.ishr, 1) := by decide +kernel
theorem dX6_count_224 : decode cX6_count 224 = .ok (.iconst 1, 1) := by decide +kernel
theorem dX6_count_225 : decode cX6_count 225 = .ok (.iand, 1) := by decide +kernel
theorem dX6_count_226 : decode cX6_count 226 = .ok (.iadd, 1) := by decide +kernel
theorem dX6_count_227 : decode cX6_count 227 = .ok (.istore_n 3, 1) := by decide +kernel
theorem dX6_count_228 : decode cX6_count 228 = .ok (.iinc 5 1, 3) := by decide +kernel
theorem dX6_count_231 : decode cX6_count 231 = .ok (.goto (-20), 3) := by decide +kernel
theorem dX6_count_234 : decode cX6_count 234 = .ok (.iload_n 3, 1) := by decide +kernel
theorem dX6_count_235 : decode cX6_count 235 = .ok (.ireturn, 1) := by decide +kernel
theorem dX6_count_236 : decode cX6_count 236 = .ok (.iconst (-1), 1) := by decide +kernel
theorem dX6_count_237 : decode cX6_count 237 = .ok (.ireturn, 1) := by decide +kernel
theorem dJ9_floorMod_7cf53_0 : decode cJ9_floorMod_7cf53 0 = .ok (.iload_n 0, 1) := by decide +kernel
theorem dJ9_floorMod_7cf53_1 : decode cJ9_floorMod_7cf53 1 = .ok (.iload_n 1, 1) := by decide +kernel
theorem dJ9_floorMod_7cf53_2 : decode cJ9_floorMod_7cf53 2 = .ok (.irem, 1) := by decide +kernel
theorem dJ9_floorMod_7cf53_3 : decode cJ9_floorMod_7cf53 3 = .ok (.istore_n 2, 1) := by decide +kernel
theorem dJ9_floorMod_7cf53_4 : decode cJ9_floorMod_7cf53 4 = .ok (.iload_n 0, 1) := by decide +kernel
theorem dJ9_floorMod_7cf53_5 : decode cJ9_floorMod_7cf53 5 = .ok (.iload_n 1, 1) := by decide +kernel
theorem dJ9_floorMod_7cf53_6 : decode cJ9_floorMod_7cf53 6 = .ok (.ixor, 1) := by decide +kernel
theorem dJ9_floorMod_7cf53_7 : decode cJ9_floorMod_7cf53 7 = .ok (.ifCond .ge 11, 3) := by decide +kernel
theorem dJ9_floorMod_7cf53_10 : decode cJ9_floorMod_7cf53 10 = .ok (.iload_n 2, 1) := by decide +kernel
theorem dJ9_floorMod_7cf53_11 : decode cJ9_floorMod_7cf53 11 = .ok (.ifCond .eq 7, 3) := by decide +kernel
theorem dJ9_floorMod_7cf53_14 : decode cJ9_floorMod_7cf53 14 = .ok (.iload_n 2, 1) := by decide +kernel
theorem dJ9_floorMod_7cf53_15 : decode cJ9_floorMod_7cf53 15 = .ok (.iload_n 1, 1) := by decide +kernel
theorem dJ9_floorMod_7cf53_16 : decode cJ9_floorMod_7cf53 16 = .ok (.iadd, 1) := by decide +kernel
theorem dJ9_floorMod_7cf53_17 : decode cJ9_floorMod_7cf53 17 = .ok (.ireturn, 1) := by decide +kernel
theorem dJ9_floorMod_7cf53_18 : decode cJ9_floorMod_7cf53 18 = .ok (.iload_n 2, 1) := by decide +kernel
theorem dJ9_floorMod_7cf53_19 : decode cJ9_floorMod_7cf53 19 = .ok (.ireturn, 1) := by decide +kernel
theorem dJ9_min_7cf53_0 : decode cJ9_min_7cf53 0 = .ok (.iload_n 0, 1) := by decide +kernel
theorem dJ9_min_7cf53_1 : decode cJ9_min_7cf53 1 = .ok (.iload_n 1, 1) := by decide +kernel
theorem dJ9_min_7cf53_2 : decode cJ9_min_7cf53 2 = .ok (.if_icmp .gt 7, 3) := by decide +kernel
theorem dJ9_min_7cf53_5 : decode cJ9_min_7cf53 5 = .ok (.iload_n 0, 1) := by decide +kernel
theorem dJ9_min_7cf53_6 : decode cJ9_min_7cf53 6 = .ok (.goto 4, 3) := by decide +kernel
theorem dJ9_min_7cf53_9 : decode cJ9_min_7cf53 9 = .ok (.iload_n 1, 1) := by decide +kernel
theorem dJ9_min_7cf53_10 : decode cJ9_min_7cf53 10 = .ok (.ireturn, 1) := by decide +kernel
end
section
/-! the words, the classes' tables, the typed world -/
def TBG : List Cond := lw_tbl.filter goodWord
def zNst (w : Cond) : Bool := match w with
  | .fieldLinkNest _ _ _ _ _ _ => true
  | .methodLinkNest _ _ _ _ => true
  | _ => false
def TBN : List Cond := lw_tbl.filter zNst
abbrev DD : Type := va_G × (Nat → ClassId)
abbrev GT : Type := Nat → Option va_E
abbrev Wd : Type := (Nat → Nat → Nat → Nat → Int32) × (Nat → Nat → Nat → Nat → Option Nat) × (Nat → Nat → Nat → Nat) × (Nat → Nat → Bool) × Nat
def zI (w : Wd) : Nat → Nat → Nat → Nat → Int32 := w.1
def zR (w : Wd) : Nat → Nat → Nat → Nat → Option Nat := w.2.1
def zA (w : Wd) : Nat → Nat → Nat → Nat := w.2.2.1
def zL (w : Wd) : Nat → Nat → Bool := w.2.2.2.1
def zS (w : Wd) : Nat := w.2.2.2.2
def sI (w : Wd) (c a k j : Nat) (v : Int32) : Wd := (fun c' a' k' j' => if c' = c ∧ a' = a ∧ k' = k ∧ j' = j then v else w.1 c' a' k' j', w.2)
def sR (w : Wd) (c a k j : Nat) (r : Option Nat) : Wd := (w.1, fun c' a' k' j' => if c' = c ∧ a' = a ∧ k' = k ∧ j' = j then r else w.2.1 c' a' k' j', w.2.2)
def kdT : List (List Nat) := [[2, 2, 2, 0], [0, 5, 2, 2, 2, 3, 2, 0, 0, 0, 0], [3, 0, 0, 0, 0, 0, 0], [1, 1], [3, 0, 0, 0], [1, 6, 1, 0, 0, 0], [3, 0, 0, 0, 0, 2, 2, 4, 2, 2, 2, 2, 2, 3, 0, 0, 0, 0, 0, 0, 0, 0, 0, 0, 3, 2, 2, 2, 0, 2, 2]]
def alT : List (List Nat) := [[16, 16, 16, 0], [0, 24, 16, 24, 24, 576, 13, 0, 0, 0, 0], [12, 0, 0, 0, 0, 0, 0], [0, 0], [300, 0, 0, 0], [0, 8, 0, 0, 0, 0], [300, 0, 0, 0, 0, 8, 8, 192, 192, 192, 192, 192, 192, 2304, 0, 0, 0, 0, 0, 0, 0, 0, 0, 0, 12, 16, 16, 16, 0, 169, 24]]
def kd (c k : Nat) : Nat := (kdT.getD c []).getD k 0
def al (c k : Nat) : Nat := (alT.getD c []).getD k 0
def nF (c : Nat) : Nat := (kdT.getD c []).length
def tg (c k : Nat) : Nat := if c = 1 then 2 else if c = 3 then (if k = 0 then 4 else 1) else if k = 0 then 4 else if k = 1 then 1 else 0
def zCl (c : Nat) : vw_C := (vwCl[c]?).getD ("", fun _ => ("", "", "", false), 0)
def RR (c : Nat) : String := (zCl c).1
def TT (c : Nat) : u_T := (zCl c).2.1
def TYs (c : Nat) : Nat → FieldType := if c = 0 then tyX0 else if c = 1 then tyX1 else if c = 2 then tyX2 else if c = 3 then tyX3 else if c = 4 then tyX4 else if c = 5 then tyX5 else tyX6
theorem zc7 {P : Nat → Prop} (h0 : P 0) (h1 : P 1) (h2 : P 2) (h3 : P 3) (h4 : P 4) (h5 : P 5) (h6 : P 6) : ∀ c, c < 7 → P c := by
  intro c hc
  rcases (show c = 0 ∨ c = 1 ∨ c = 2 ∨ c = 3 ∨ c = 4 ∨ c = 5 ∨ c = 6 by omega) with rfl | rfl | rfl | rfl | rfl | rfl | rfl <;> assumption
theorem zCl_ok : ∀ c, c < 7 → vwCl[c]? = some (RR c, TT c, nF c) := zc7 rfl rfl rfl rfl rfl rfl rfl
theorem zTy_ok : ∀ c, c < 7 → ∀ k, k < nF c → parseFieldDescriptor (TT c k).2.2.1 = some (TYs c k) := zc7 tyX0_ok tyX1_ok tyX2_ok tyX3_ok tyX4_ok tyX5_ok tyX6_ok
theorem zNm_ok : ∀ c, c < 7 → ∀ a, a < nF c → ∀ b, b < nF c → a ≠ b → (TT c a).2.1 ≠ (TT c b).2.1 := zc7 nmX0 nmX1 nmX2 nmX3 nmX4 nmX5 nmX6
theorem zIn_ok : ∀ c, c < 7 → ∀ w ∈ u_ws (RR c) (TT c) (nF c), w ∈ TBG := zc7 (by decide +kernel) (by decide +kernel) (by decide +kernel) (by decide +kernel) (by decide +kernel) (by decide +kernel) (by decide +kernel)
theorem zKd0 : ∀ c, c < 7 → ∀ k, k < nF c → kd c k = 0 → TYs c k = .int := by decide +kernel
theorem zOwn : ∀ c, c < 7 → ∀ k, k < nF c → (TT c k).1 = RR c := by decide +kernel
def fv (w : Wd) (c a k : Nat) : Value := if kd c k = 0 then .int (w.1 c a k 0) else if kd c k = 1 then va_rf (w.2.1 c a k 0) else .ref (w.2.2.1 c a k)
def fl (w : Wd) (c a : Nat) : List Value := (List.range (nF c)).map (fv w c a)
def cyN (k : Nat) : Nat := if k = 2 then 0 else if k = 3 then 1 else if k = 4 then 2 else if k = 5 then 3 else 4
def cn (D : DD) (w : Wd) (c a k : Nat) : va_E := if kd c k < 5 then .inl (D.2 (cyN (kd c k)), al c k, .inl (w.1 c a k)) else .inl (D.2 (cyN (kd c k)), al c k, .inr (.inr (.inr (.inr (w.2.1 c a k)))))
def Rp (D : DD) (w : Wd) (G : GT) (sz : Nat) : Prop :=
  (∀ c a, w.2.2.2.1 c a = true → c < 7 ∧ G a = some (.inr (c, fl w c a))) ∧
  (∀ c a k, w.2.2.2.1 c a = true → k < nF c → 2 ≤ kd c k → G (w.2.2.1 c a k) = some (cn D w c a k)) ∧
  (∀ c a k c' a' k', w.2.2.2.1 c a = true → w.2.2.2.1 c' a' = true → k < nF c → 2 ≤ kd c k → k' < nF c' → 2 ≤ kd c' k' → w.2.2.1 c a k = w.2.2.1 c' a' k' → c = c' ∧ a = a' ∧ k = k') ∧
  (∀ c a k j b, w.2.2.2.1 c a = true → w.2.1 c a k j = some b → w.2.2.2.1 (tg c k) b = true) ∧ sz = w.2.2.2.2
def gset (G : GT) (a : Nat) (e : va_E) : GT := fun b => if b = a then some e else G b
theorem gset_s (G : GT) (a : Nat) (e : va_E) : gset G a e a = some e := by simp [gset]
theorem gset_n (G : GT) {a b : Nat} (e : va_E) (h : b ≠ a) : gset G a e b = G b := by simp [gset, h]
theorem fl_len (w : Wd) (c a : Nat) : (fl w c a).length = nF c := by simp [fl]
theorem fl_at (w : Wd) {c : Nat} (a : Nat) {k : Nat} (h : k < nF c) : (fl w c a)[k]? = some (fv w c a k) := by simp [fl, h]
theorem cn_inl (D : DD) (w : Wd) (c a k : Nat) : ∃ y, cn D w c a k = .inl y := by unfold cn; split <;> exact ⟨_, rfl⟩
theorem Rp_cls {D : DD} {w : Wd} {G : GT} {sz : Nat} (h : Rp D w G sz) {c c' a : Nat} (h1 : w.2.2.2.1 c a = true) (h2 : w.2.2.2.1 c' a = true) : c = c' := by
  have e := (h.1 c a h1).2.symm.trans (h.1 c' a h2).2
  simp only [Option.some.injEq, Sum.inr.injEq, Prod.mk.injEq] at e
  exact e.1
theorem Rp_nar {D : DD} {w : Wd} {G : GT} {sz : Nat} (h : Rp D w G sz) {c c' a b k : Nat} (h1 : w.2.2.2.1 c a = true) (h2 : w.2.2.2.1 c' b = true) (hk : k < nF c') (hd : 2 ≤ kd c' k) : w.2.2.1 c' b k ≠ a := by
  intro e
  have e1 := (h.1 c a h1).2
  have e2 := h.2.1 c' b k h2 hk hd
  rw [e, e1] at e2
  obtain ⟨y, hy⟩ := cn_inl D w c' b k
  rw [hy] at e2
  cases e2
theorem Rp_putI {D : DD} {w : Wd} {G : GT} {sz : Nat} (h : Rp D w G sz) {c a k : Nat} (hl : w.2.2.2.1 c a = true) (hk : k < nF c) (hd : kd c k = 0) (v : Int32) : Rp D (sI w c a k 0 v) (gset G a (.inr (c, (fl w c a).set k (.int v)))) sz := by
  refine ⟨fun c' a' h' => ⟨(h.1 c' a' h').1, ?_⟩, fun c' a' k' h' hk' hd' => ?_, h.2.2.1, h.2.2.2.1, h.2.2.2.2⟩
  · by_cases e : a' = a
    · subst e
      have ec := Rp_cls h hl h'
      subst ec
      rw [gset_s]
      congr 3
      apply List.ext_getElem?
      intro i
      by_cases hi : i < nF c
      · rw [fl_at _ _ hi]
        by_cases hik : i = k
        · subst hik
          rw [List.getElem?_set_self (by rw [fl_len]; exact hi)]
          simp [fv, hd, sI]
        · rw [List.getElem?_set_ne (Ne.symm hik), fl_at _ _ hi]
          simp [fv, sI, hik]
      · rw [List.getElem?_eq_none (by rw [List.length_set, fl_len]; omega), List.getElem?_eq_none (by rw [fl_len]; omega)]
    · rw [gset_n _ _ e, (h.1 c' a' h').2]
      congr 3
      apply List.map_congr_left
      intro i _
      simp [fv, sI, e]
  · show gset G a _ (w.2.2.1 c' a' k') = _
    rw [gset_n _ _ (Rp_nar h hl h' hk' hd'), h.2.1 c' a' k' h' hk' hd']
    congr 1
    have hne : ¬ (c' = c ∧ k' = k) := by rintro ⟨rfl, rfl⟩; omega
    have hf : (sI w c a k 0 v).1 c' a' k' = w.1 c' a' k' := by
      funext j
      show (if c' = c ∧ a' = a ∧ k' = k ∧ j = 0 then v else w.1 c' a' k' j) = _
      rw [if_neg (fun q => hne ⟨q.1, q.2.2.1⟩)]
    unfold cn
    rw [hf]
    rfl
theorem Rp_putA {D : DD} {w : Wd} {G : GT} {sz : Nat} (h : Rp D w G sz) {c a k : Nat} (hl : w.2.2.2.1 c a = true) (hk : k < nF c) (hd : 2 ≤ kd c k) (hd5 : kd c k < 5) (j : Nat) (v : Int32) : Rp D (sI w c a k j v) (gset G (w.2.2.1 c a k) (.inl (D.2 (cyN (kd c k)), al c k, .inl (upd (w.1 c a k) j v)))) sz := by
  refine ⟨fun c' a' h' => ⟨(h.1 c' a' h').1, ?_⟩, fun c' a' k' h' hk' hd' => ?_, h.2.2.1, h.2.2.2.1, h.2.2.2.2⟩
  · rw [gset_n _ _ (fun e => Rp_nar h h' hl hk hd e.symm), (h.1 c' a' h').2]
    congr 3
    apply List.map_congr_left
    intro i hi
    have hf : kd c' i = 0 → (sI w c a k j v).1 c' a' i 0 = w.1 c' a' i 0 := by
      intro h0
      show (if c' = c ∧ a' = a ∧ i = k ∧ 0 = j then v else _) = _
      rw [if_neg]
      rintro ⟨rfl, -, rfl, -⟩
      omega
    unfold fv
    by_cases h0 : kd c' i = 0
    · rw [if_pos h0, if_pos h0, hf h0]
    · rw [if_neg h0, if_neg h0]
      rfl
  · show gset G _ _ (w.2.2.1 c' a' k') = _
    by_cases e : w.2.2.1 c' a' k' = w.2.2.1 c a k
    · obtain ⟨rfl, rfl, rfl⟩ := h.2.2.1 _ _ _ _ _ _ h' hl hk' hd' hk hd e
      rw [gset_s]
      unfold cn
      rw [if_pos hd5]
      congr 5
      funext i
      show upd _ j v i = if c' = c' ∧ a' = a' ∧ k' = k' ∧ i = j then v else _
      simp [upd]
    · rw [gset_n _ _ e, h.2.1 c' a' k' h' hk' hd']
      congr 1
      have hf : (sI w c a k j v).1 c' a' k' = w.1 c' a' k' := by
        funext i
        show (if c' = c ∧ a' = a ∧ k' = k ∧ i = j then v else w.1 c' a' k' i) = _
        rw [if_neg]
        rintro ⟨rfl, rfl, rfl, -⟩
        exact e rfl
      unfold cn
      rw [hf]
      rfl
theorem Rp_putR {D : DD} {w : Wd} {G : GT} {sz : Nat} (h : Rp D w G sz) {c a k : Nat} (hl : w.2.2.2.1 c a = true) (hk : k < nF c) (hd5 : 5 ≤ kd c k) (j : Nat) (b : Nat) (hb : w.2.2.2.1 (tg c k) b = true) : Rp D (sR w c a k j (some b)) (gset G (w.2.2.1 c a k) (.inl (D.2 (cyN (kd c k)), al c k, .inr (.inr (.inr (.inr (va_up (w.2.1 c a k) j (some b)))))))) sz := by
  have hd : 2 ≤ kd c k := by omega
  refine ⟨fun c' a' h' => ⟨(h.1 c' a' h').1, ?_⟩, fun c' a' k' h' hk' hd' => ?_, h.2.2.1, fun c' a' k' j' b' h' hb' => ?_, h.2.2.2.2⟩
  · rw [gset_n _ _ (fun e => Rp_nar h h' hl hk hd e.symm), (h.1 c' a' h').2]
    congr 3
    apply List.map_congr_left
    intro i hi
    have hf : kd c' i = 1 → (sR w c a k j (some b)).2.1 c' a' i 0 = w.2.1 c' a' i 0 := by
      intro h0
      show (if c' = c ∧ a' = a ∧ i = k ∧ 0 = j then some b else _) = _
      rw [if_neg]
      rintro ⟨rfl, -, rfl, -⟩
      omega
    unfold fv
    by_cases h0 : kd c' i = 0
    · rw [if_pos h0, if_pos h0]
      rfl
    · rw [if_neg h0, if_neg h0]
      by_cases h1 : kd c' i = 1
      · rw [if_pos h1, if_pos h1, hf h1]
      · rw [if_neg h1, if_neg h1]
        rfl
  · show gset G _ _ (w.2.2.1 c' a' k') = _
    by_cases e : w.2.2.1 c' a' k' = w.2.2.1 c a k
    · obtain ⟨rfl, rfl, rfl⟩ := h.2.2.1 _ _ _ _ _ _ h' hl hk' hd' hk hd e
      rw [gset_s]
      unfold cn
      rw [if_neg (by omega)]
      congr 8
      funext i
      show va_up _ j (some b) i = if c' = c' ∧ a' = a' ∧ k' = k' ∧ i = j then some b else _
      simp [va_up]
    · rw [gset_n _ _ e, h.2.1 c' a' k' h' hk' hd']
      congr 1
      have hf : (sR w c a k j (some b)).2.1 c' a' k' = w.2.1 c' a' k' := by
        funext i
        show (if c' = c ∧ a' = a ∧ k' = k ∧ i = j then some b else w.2.1 c' a' k' i) = _
        rw [if_neg]
        rintro ⟨rfl, rfl, rfl, -⟩
        exact e rfl
      unfold cn
      rw [hf]
      rfl
  · have hb'' : (if c' = c ∧ a' = a ∧ k' = k ∧ j' = j then some b else w.2.1 c' a' k' j') = some b' := hb'
    by_cases q : c' = c ∧ a' = a ∧ k' = k ∧ j' = j
    · rw [if_pos q] at hb''
      cases hb''
      obtain ⟨rfl, rfl, rfl, rfl⟩ := q
      exact hb
    · rw [if_neg q] at hb''
      exact h.2.2.2.1 c' a' k' j' b' h' hb''
end
section
/-! the judgement V over typed worlds, and a rule an instruction -/
def TYA (D : DD) : List (ClassId × FieldType) := [(D.2 0, .int), (D.2 1, .byte), (D.2 2, .boolean), (D.2 3, .object "StuckHands$Row"), (D.2 4, .object "StuckHands$Picture")]
def KB (D : DD) (U : State) : Prop := va_K D.1 vwCl (TYA D) U ∧ (∀ w ∈ TBN, va_Nw w U) ∧ va_AO "StuckHands$Row" U ∧ va_AO "StuckHands$Picture" U
theorem KB.warm {D : DD} {s U : State} (hW : s.WarmedH U.vm) (h : KB D s) : KB D U := by
  refine ⟨h.1.moved hW.alike, fun w hw => ?_, h.2.2.1.moved hW.alike, h.2.2.2.moved hW.alike⟩
  have h1 := h.2.1 w hw
  have h2 := (List.mem_filter.mp hw).2
  cases w <;> first | (exact va_Nw.warmF hW h1) | (exact va_Nw.warmM hW h1) | (simp [zNst] at h2)
theorem KB.same {D : DD} {u U : State} (e : u.vm = U.vm) (h : KB D u) : KB D U := by
  have ha : u.vm.Alike U.vm := by rw [e]; exact Vm.Alike.refl _
  refine ⟨h.1.moved ha, fun w hw => ?_, h.2.2.1.moved ha, h.2.2.2.moved ha⟩
  have h1 := h.2.1 w hw
  have h2 := (List.mem_filter.mp hw).2
  cases w <;> first | (exact va_Nw.same rfl e h1) | (simp [zNst] at h2)
def GP (D : DD) (G : GT) (H : Heap) : Prop := ∀ a e, G a = some e → va_at D.1 vwCl (a, e) H
def LH (ls : Array Slot) (nL : Nat) (L : List (Option Value)) : Prop := ls.size = nL ∧ lv_wf ls ∧ (∀ (i : Nat) (v : Value), L[i]? = some (some v) → ls[i]? = some (.val v) ∧ v.category = 1) ∧ L.length ≤ nL
abbrev CT : Type := Program × Launch × Env × Room × State × MethodId × Array Value × List Frame × Method × Code × (State → Prop) × DD × (Nat → Prop) × Nat
def xD (x : CT) : DD := x.2.2.2.2.2.2.2.2.2.2.2.1
def xl (x : CT) : Launch := x.2.1
def V (x : CT) (pc : Nat) (L : List (Option Value)) (st : List Value) (P : GT → Nat → Prop) (cs ss : Nat) : Prop :=
  match x with
  | (p, l, e, R, s, m, args, below, meth, c, Q, D, A, nL) => ∀ (G : GT) (sz : Nat) (H : Heap) (locs : List Loc) (ls : Array Slot), P G sz → H.size = sz → GP D G H → (∀ a e, G a = some e → A a) → va_S A s.heap H locs → LH ls nL L → W p l e R s m args below meth c H locs cs ss Q (F0 m pc ls st)
def CX (x : CT) (cc : ByteArray) (own : String) (rm : Room) (ret : Option FieldType) : Prop :=
  match x with
  | (p, l, e, R, s, m, args, below, meth, c, Q, D, A, nL) => p.tables.exec = Jvm.exec ∧ c.code = cc ∧ c.maxLocals = nL ∧ s.vm.findClass own = some m.cls ∧ (∀ w ∈ TBG, w.before args s = true) ∧ KB D s ∧ (∀ q, s.heap.size ≤ q → A q) ∧ meth.locks = false ∧ meth.sig.returnType = ret ∧ R = rm
theorem LH.put {ls : Array Slot} {nL i : Nat} {L : List (Option Value)} {v : Value} (h : LH ls nL L) (hv : v.category = 1) : ∀ ls' : Array Slot, lv_has ls' nL ((i, v) :: ((List.range L.length).filterMap (fun j => (L[j]?.join).map (fun v => (j, v)))).filter (fun q => !(q.1 == i) && !(q.1 + 1 == i && q.2.category == 2))) → LH ls' nL (L.set i (some v)) := by
  intro ls' h'
  refine ⟨h'.1, h'.2.1, fun j u hj => ?_, by rw [List.length_set]; exact h.2.2.2⟩
  by_cases e : j = i
  · subst e
    have hlt : j < L.length := by
      have := (List.getElem?_eq_some_iff.mp hj).1
      rwa [List.length_set] at this
    rw [List.getElem?_set_self hlt] at hj
    cases hj
    exact ⟨h'.2.2 (j, v) List.mem_cons_self, hv⟩
  · rw [List.getElem?_set_ne (Ne.symm e)] at hj
    have hlt : j < L.length := (List.getElem?_eq_some_iff.mp hj).1
    have hc := (h.2.2.1 j u hj).2
    refine ⟨h'.2.2 (j, u) (List.mem_cons_of_mem _ (List.mem_filter.mpr ⟨List.mem_filterMap.mpr ⟨j, List.mem_range.mpr hlt, ?_⟩, ?_⟩)), hc⟩
    · rw [hj]; rfl
    · simp [e, hc]
theorem LH.has {ls : Array Slot} {nL : Nat} {L : List (Option Value)} (h : LH ls nL L) : lv_has ls nL ((List.range L.length).filterMap (fun j => (L[j]?.join).map (fun v => (j, v)))) := by
  refine ⟨h.1, h.2.1, fun q hq => ?_⟩
  obtain ⟨j, -, hj⟩ := List.mem_filterMap.mp hq
  cases hL : L[j]? with
  | none => rw [hL] at hj; cases hj
  | some o =>
    cases o with
    | none => rw [hL] at hj; cases hj
    | some v =>
      rw [hL] at hj
      cases hj
      exact (h.2.2.1 j v hL).1
section ZV
variable {x : CT} {cc : ByteArray} {own : String} {rm : Room} {ret : Option FieldType} {pc pc' : Nat} {L : List (Option Value)} {st : List Value} {P : GT → Nat → Prop} {cs ss : Nat}
theorem V.imp {P' : GT → Nat → Prop} (h : ∀ G sz, P G sz → P' G sz) (k : V x pc L st P' cs ss) : V x pc L st P cs ss := by
  obtain ⟨p, l, e, R, s, m, args, below, meth, c, Q, D, A, nL⟩ := x
  exact fun G sz H locs ls hP => k G sz H locs ls (h G sz hP)
theorem V.wide {cs' ss' : Nat} (h1 : cs ≤ cs') (h2 : ss ≤ ss') (k : V x pc L st P cs' ss') : V x pc L st P cs ss := by
  obtain ⟨p, l, e, R, s, m, args, below, meth, c, Q, D, A, nL⟩ := x
  exact fun G sz H locs ls a1 a2 a3 a4 a5 a6 => W.widen h1 h2 (k G sz H locs ls a1 a2 a3 a4 a5 a6)
theorem V.sub {L' : List (Option Value)} (hn : L'.length = L.length) (h : ∀ (i : Nat) (v : Value), L'[i]? = some (some v) → L[i]? = some (some v)) (k : V x pc L' st P cs ss) : V x pc L st P cs ss := by
  obtain ⟨p, l, e, R, s, m, args, below, meth, c, Q, D, A, nL⟩ := x
  exact fun G sz H locs ls a1 a2 a3 a4 a5 a6 => k G sz H locs ls a1 a2 a3 a4 a5 ⟨a6.1, a6.2.1, fun i v hi => a6.2.2.1 i v (h i v hi), by rw [hn]; exact a6.2.2.2⟩

theorem v_iconst (hx : CX x cc own rm ret) {n : Int} {v : Int32} (d : decode cc pc = .ok (.iconst n, 1)) (hv : Int32.ofInt n = v) (hp : pc + 1 = pc') (k : V x pc' L (.int v :: st) P cs ss) : V x pc L (st) P cs ss := by
  obtain ⟨p, l, e, R, s, m, args, below, meth, c, Q, D, A, nL⟩ := x
  obtain ⟨hx, hb, hml, hown, hts, hK, hA, hlk, hr, hR⟩ := hx
  subst hp
  intro G sz H locs ls a1 a2 a3 a4 a5 a6
  exact lv_iconst hx hb d hv (k G sz H locs ls a1 a2 a3 a4 a5 a6)
theorem v_bipush (hx : CX x cc own rm ret) {n : Int} {v : Int32} (d : decode cc pc = .ok (.bipush n, 2)) (hv : (Int8.ofInt n).toInt32 = v) (hp : pc + 2 = pc') (k : V x pc' L (.int v :: st) P cs ss) : V x pc L (st) P cs ss := by
  obtain ⟨p, l, e, R, s, m, args, below, meth, c, Q, D, A, nL⟩ := x
  obtain ⟨hx, hb, hml, hown, hts, hK, hA, hlk, hr, hR⟩ := hx
  subst hp
  intro G sz H locs ls a1 a2 a3 a4 a5 a6
  exact lv_bipush hx hb d hv (k G sz H locs ls a1 a2 a3 a4 a5 a6)
theorem v_sipush (hx : CX x cc own rm ret) {n : Int} {v : Int32} (d : decode cc pc = .ok (.sipush n, 3)) (hv : (Int16.ofInt n).toInt32 = v) (hp : pc + 3 = pc') (k : V x pc' L (.int v :: st) P cs ss) : V x pc L (st) P cs ss := by
  obtain ⟨p, l, e, R, s, m, args, below, meth, c, Q, D, A, nL⟩ := x
  obtain ⟨hx, hb, hml, hown, hts, hK, hA, hlk, hr, hR⟩ := hx
  subst hp
  intro G sz H locs ls a1 a2 a3 a4 a5 a6
  exact lv_sipush hx hb d hv (k G sz H locs ls a1 a2 a3 a4 a5 a6)
theorem v_null (hx : CX x cc own rm ret) (d : decode cc pc = .ok (.aconst_null, 1)) (hp : pc + 1 = pc') (k : V x pc' L (va_rf none :: st) P cs ss) : V x pc L (st) P cs ss := by
  obtain ⟨p, l, e, R, s, m, args, below, meth, c, Q, D, A, nL⟩ := x
  obtain ⟨hx, hb, hml, hown, hts, hK, hA, hlk, hr, hR⟩ := hx
  subst hp
  intro G sz H locs ls a1 a2 a3 a4 a5 a6
  exact lv_null hx hb d (k G sz H locs ls a1 a2 a3 a4 a5 a6)
theorem v_iload_n (hx : CX x cc own rm ret) {i : Fin 4} {v : Int32} (d : decode cc pc = .ok (.iload_n i, 1)) (hl : L[(i : Nat)]? = some (some (.int v))) (hp : pc + 1 = pc') (k : V x pc' L (.int v :: st) P cs ss) : V x pc L (st) P cs ss := by
  obtain ⟨p, l, e, R, s, m, args, below, meth, c, Q, D, A, nL⟩ := x
  obtain ⟨hx, hb, hml, hown, hts, hK, hA, hlk, hr, hR⟩ := hx
  subst hp
  intro G sz H locs ls a1 a2 a3 a4 a5 a6
  exact lv_iload_n hx hb d rfl (a6.2.2.1 _ _ hl).1 (k G sz H locs ls a1 a2 a3 a4 a5 a6)
theorem v_iload (hx : CX x cc own rm ret) {i : Nat} {v : Int32} (d : decode cc pc = .ok (.iload i, 2)) (hl : L[i]? = some (some (.int v))) (hp : pc + 2 = pc') (k : V x pc' L (.int v :: st) P cs ss) : V x pc L (st) P cs ss := by
  obtain ⟨p, l, e, R, s, m, args, below, meth, c, Q, D, A, nL⟩ := x
  obtain ⟨hx, hb, hml, hown, hts, hK, hA, hlk, hr, hR⟩ := hx
  subst hp
  intro G sz H locs ls a1 a2 a3 a4 a5 a6
  exact lv_iload hx hb d (a6.2.2.1 _ _ hl).1 (k G sz H locs ls a1 a2 a3 a4 a5 a6)
theorem v_aload_n (hx : CX x cc own rm ret) {i : Fin 4} {v : Nat} (d : decode cc pc = .ok (.aload_n i, 1)) (hl : L[(i : Nat)]? = some (some (.ref v))) (hp : pc + 1 = pc') (k : V x pc' L (.ref v :: st) P cs ss) : V x pc L (st) P cs ss := by
  obtain ⟨p, l, e, R, s, m, args, below, meth, c, Q, D, A, nL⟩ := x
  obtain ⟨hx, hb, hml, hown, hts, hK, hA, hlk, hr, hR⟩ := hx
  subst hp
  intro G sz H locs ls a1 a2 a3 a4 a5 a6
  exact lv_aload_n hx hb d rfl (a6.2.2.1 _ _ hl).1 (k G sz H locs ls a1 a2 a3 a4 a5 a6)
theorem v_aload (hx : CX x cc own rm ret) {i : Nat} {v : Nat} (d : decode cc pc = .ok (.aload i, 2)) (hl : L[i]? = some (some (.ref v))) (hp : pc + 2 = pc') (k : V x pc' L (.ref v :: st) P cs ss) : V x pc L (st) P cs ss := by
  obtain ⟨p, l, e, R, s, m, args, below, meth, c, Q, D, A, nL⟩ := x
  obtain ⟨hx, hb, hml, hown, hts, hK, hA, hlk, hr, hR⟩ := hx
  subst hp
  intro G sz H locs ls a1 a2 a3 a4 a5 a6
  exact lv_aload hx hb d (a6.2.2.1 _ _ hl).1 (k G sz H locs ls a1 a2 a3 a4 a5 a6)
theorem v_aloadq_n (hx : CX x cc own rm ret) {i : Fin 4} {r : Option Nat} (d : decode cc pc = .ok (.aload_n i, 1)) (hl : L[(i : Nat)]? = some (some (va_rf r))) (hp : pc + 1 = pc') (k : V x pc' L (va_rf r :: st) P cs ss) : V x pc L (st) P cs ss := by
  obtain ⟨p, l, e, R, s, m, args, below, meth, c, Q, D, A, nL⟩ := x
  obtain ⟨hx, hb, hml, hown, hts, hK, hA, hlk, hr, hR⟩ := hx
  subst hp
  intro G sz H locs ls a1 a2 a3 a4 a5 a6
  cases r with
  | none => exact lv_aload_nN hx hb d rfl (a6.2.2.1 _ _ hl).1 (k G sz H locs ls a1 a2 a3 a4 a5 a6)
  | some v => exact lv_aload_n hx hb d rfl (a6.2.2.1 _ _ hl).1 (k G sz H locs ls a1 a2 a3 a4 a5 a6)
theorem v_aloadq (hx : CX x cc own rm ret) {i : Nat} {r : Option Nat} (d : decode cc pc = .ok (.aload i, 2)) (hl : L[i]? = some (some (va_rf r))) (hp : pc + 2 = pc') (k : V x pc' L (va_rf r :: st) P cs ss) : V x pc L (st) P cs ss := by
  obtain ⟨p, l, e, R, s, m, args, below, meth, c, Q, D, A, nL⟩ := x
  obtain ⟨hx, hb, hml, hown, hts, hK, hA, hlk, hr, hR⟩ := hx
  subst hp
  intro G sz H locs ls a1 a2 a3 a4 a5 a6
  cases r with
  | none => exact lv_aloadN hx hb d (a6.2.2.1 _ _ hl).1 (k G sz H locs ls a1 a2 a3 a4 a5 a6)
  | some v => exact lv_aload hx hb d (a6.2.2.1 _ _ hl).1 (k G sz H locs ls a1 a2 a3 a4 a5 a6)
theorem v_istore_n (hx : CX x cc own rm ret) {i : Fin 4} {v : Int32} (d : decode cc pc = .ok (.istore_n i, 1)) (hp : pc + 1 = pc') {L' : List (Option Value)} (hL : L.set (i : Nat) (some (.int v)) = L') (hn : (i : Nat) < L.length) (k : V x pc' L' st P cs ss) : V x pc L (.int v :: st) P cs ss := by
  obtain ⟨p, l, e, R, s, m, args, below, meth, c, Q, D, A, nL⟩ := x
  obtain ⟨hx, hb, hml, hown, hts, hK, hA, hlk, hr, hR⟩ := hx
  subst hp
  intro G sz H locs ls a1 a2 a3 a4 a5 a6
  subst hL
  exact lv_istore_n hx hb d rfl a6.has (Nat.lt_of_lt_of_le hn a6.2.2.2) rfl (fun ls1 h1 => k G sz H locs ls1 a1 a2 a3 a4 a5 (a6.put rfl ls1 h1))
theorem v_istore (hx : CX x cc own rm ret) {i : Nat} {v : Int32} (d : decode cc pc = .ok (.istore i, 2)) (hp : pc + 2 = pc') {L' : List (Option Value)} (hL : L.set i (some (.int v)) = L') (hn : i < L.length) (k : V x pc' L' st P cs ss) : V x pc L (.int v :: st) P cs ss := by
  obtain ⟨p, l, e, R, s, m, args, below, meth, c, Q, D, A, nL⟩ := x
  obtain ⟨hx, hb, hml, hown, hts, hK, hA, hlk, hr, hR⟩ := hx
  subst hp
  intro G sz H locs ls a1 a2 a3 a4 a5 a6
  subst hL
  exact lv_istore hx hb d a6.has (Nat.lt_of_lt_of_le hn a6.2.2.2) rfl (fun ls1 h1 => k G sz H locs ls1 a1 a2 a3 a4 a5 (a6.put rfl ls1 h1))
theorem v_astore_n (hx : CX x cc own rm ret) {i : Fin 4} {v : Nat} (d : decode cc pc = .ok (.astore_n i, 1)) (hp : pc + 1 = pc') {L' : List (Option Value)} (hL : L.set (i : Nat) (some (.ref v)) = L') (hn : (i : Nat) < L.length) (k : V x pc' L' st P cs ss) : V x pc L (.ref v :: st) P cs ss := by
  obtain ⟨p, l, e, R, s, m, args, below, meth, c, Q, D, A, nL⟩ := x
  obtain ⟨hx, hb, hml, hown, hts, hK, hA, hlk, hr, hR⟩ := hx
  subst hp
  intro G sz H locs ls a1 a2 a3 a4 a5 a6
  subst hL
  exact lv_astore_n hx hb d rfl a6.has (Nat.lt_of_lt_of_le hn a6.2.2.2) rfl (fun ls1 h1 => k G sz H locs ls1 a1 a2 a3 a4 a5 (a6.put rfl ls1 h1))
theorem v_astore (hx : CX x cc own rm ret) {i : Nat} {v : Nat} (d : decode cc pc = .ok (.astore i, 2)) (hp : pc + 2 = pc') {L' : List (Option Value)} (hL : L.set i (some (.ref v)) = L') (hn : i < L.length) (k : V x pc' L' st P cs ss) : V x pc L (.ref v :: st) P cs ss := by
  obtain ⟨p, l, e, R, s, m, args, below, meth, c, Q, D, A, nL⟩ := x
  obtain ⟨hx, hb, hml, hown, hts, hK, hA, hlk, hr, hR⟩ := hx
  subst hp
  intro G sz H locs ls a1 a2 a3 a4 a5 a6
  subst hL
  exact lv_astore hx hb d a6.has (Nat.lt_of_lt_of_le hn a6.2.2.2) rfl (fun ls1 h1 => k G sz H locs ls1 a1 a2 a3 a4 a5 (a6.put rfl ls1 h1))
theorem v_astoreq_n (hx : CX x cc own rm ret) {i : Fin 4} {v : Option Nat} (d : decode cc pc = .ok (.astore_n i, 1)) (hp : pc + 1 = pc') {L' : List (Option Value)} (hL : L.set (i : Nat) (some (va_rf v)) = L') (hn : (i : Nat) < L.length) (k : V x pc' L' st P cs ss) : V x pc L (va_rf v :: st) P cs ss := by
  obtain ⟨p, l, e, R, s, m, args, below, meth, c, Q, D, A, nL⟩ := x
  obtain ⟨hx, hb, hml, hown, hts, hK, hA, hlk, hr, hR⟩ := hx
  subst hp
  intro G sz H locs ls a1 a2 a3 a4 a5 a6
  subst hL
  cases v with
  | none => exact lv_astore_nN hx hb d rfl a6.has (Nat.lt_of_lt_of_le hn a6.2.2.2) rfl (fun ls1 h1 => k G sz H locs ls1 a1 a2 a3 a4 a5 (a6.put rfl ls1 h1))
  | some v => exact lv_astore_n hx hb d rfl a6.has (Nat.lt_of_lt_of_le hn a6.2.2.2) rfl (fun ls1 h1 => k G sz H locs ls1 a1 a2 a3 a4 a5 (a6.put rfl ls1 h1))
theorem v_astoreq (hx : CX x cc own rm ret) {i : Nat} {v : Option Nat} (d : decode cc pc = .ok (.astore i, 2)) (hp : pc + 2 = pc') {L' : List (Option Value)} (hL : L.set i (some (va_rf v)) = L') (hn : i < L.length) (k : V x pc' L' st P cs ss) : V x pc L (va_rf v :: st) P cs ss := by
  obtain ⟨p, l, e, R, s, m, args, below, meth, c, Q, D, A, nL⟩ := x
  obtain ⟨hx, hb, hml, hown, hts, hK, hA, hlk, hr, hR⟩ := hx
  subst hp
  intro G sz H locs ls a1 a2 a3 a4 a5 a6
  subst hL
  cases v with
  | none => exact lv_astoreN hx hb d a6.has (Nat.lt_of_lt_of_le hn a6.2.2.2) rfl (fun ls1 h1 => k G sz H locs ls1 a1 a2 a3 a4 a5 (a6.put rfl ls1 h1))
  | some v => exact lv_astore hx hb d a6.has (Nat.lt_of_lt_of_le hn a6.2.2.2) rfl (fun ls1 h1 => k G sz H locs ls1 a1 a2 a3 a4 a5 (a6.put rfl ls1 h1))
theorem v_iinc (hx : CX x cc own rm ret) {i : Nat} {n : Int} {v w0 : Int32} (d : decode cc pc = .ok (.iinc i n, 3)) (hp : pc + 3 = pc') (hl : L[i]? = some (some (.int v))) (hv : v + Int32.ofInt n = w0) {L' : List (Option Value)} (hL : L.set i (some (.int w0)) = L') (k : V x pc' L' st P cs ss) : V x pc L st P cs ss := by
  obtain ⟨p, l, e, R, s, m, args, below, meth, c, Q, D, A, nL⟩ := x
  obtain ⟨hx, hb, hml, hown, hts, hK, hA, hlk, hr, hR⟩ := hx
  subst hp
  intro G sz H locs ls a1 a2 a3 a4 a5 a6
  subst hL
  have hn : i < L.length := (List.getElem?_eq_some_iff.mp hl).1
  obtain ⟨k0, hk0⟩ : ∃ k0 : Nat, ((List.range L.length).filterMap (fun j => (L[j]?.join).map (fun v => (j, v))))[k0]? = some (i, .int v) := List.getElem?_of_mem (List.mem_filterMap.mpr ⟨i, List.mem_range.mpr hn, by rw [hl]; rfl⟩)
  exact lv_iinc hx hb d a6.has hk0 hv (Nat.lt_of_lt_of_le hn a6.2.2.2) rfl (fun ls1 h1 => k G sz H locs ls1 a1 a2 a3 a4 a5 (a6.put rfl ls1 h1))
theorem v_iadd (hx : CX x cc own rm ret) {a b : Int32} (d : decode cc pc = .ok (.iadd, 1)) (hp : pc + 1 = pc') (k : V x pc' L (.int (a + b) :: st) P cs ss) : V x pc L (.int b :: .int a :: st) P cs ss := by
  obtain ⟨p, l, e, R, s, m, args, below, meth, c, Q, D, A, nL⟩ := x
  obtain ⟨hx, hb, hml, hown, hts, hK, hA, hlk, hr, hR⟩ := hx
  subst hp
  intro G sz H locs ls a1 a2 a3 a4 a5 a6
  exact lv_iadd hx hb d (k G sz H locs ls a1 a2 a3 a4 a5 a6)
theorem v_isub (hx : CX x cc own rm ret) {a b : Int32} (d : decode cc pc = .ok (.isub, 1)) (hp : pc + 1 = pc') (k : V x pc' L (.int (a - b) :: st) P cs ss) : V x pc L (.int b :: .int a :: st) P cs ss := by
  obtain ⟨p, l, e, R, s, m, args, below, meth, c, Q, D, A, nL⟩ := x
  obtain ⟨hx, hb, hml, hown, hts, hK, hA, hlk, hr, hR⟩ := hx
  subst hp
  intro G sz H locs ls a1 a2 a3 a4 a5 a6
  exact lv_isub hx hb d (k G sz H locs ls a1 a2 a3 a4 a5 a6)
theorem v_imul (hx : CX x cc own rm ret) {a b : Int32} (d : decode cc pc = .ok (.imul, 1)) (hp : pc + 1 = pc') (k : V x pc' L (.int (a * b) :: st) P cs ss) : V x pc L (.int b :: .int a :: st) P cs ss := by
  obtain ⟨p, l, e, R, s, m, args, below, meth, c, Q, D, A, nL⟩ := x
  obtain ⟨hx, hb, hml, hown, hts, hK, hA, hlk, hr, hR⟩ := hx
  subst hp
  intro G sz H locs ls a1 a2 a3 a4 a5 a6
  exact lv_imul hx hb d (k G sz H locs ls a1 a2 a3 a4 a5 a6)
theorem v_iand (hx : CX x cc own rm ret) {a b : Int32} (d : decode cc pc = .ok (.iand, 1)) (hp : pc + 1 = pc') (k : V x pc' L (.int (a &&& b) :: st) P cs ss) : V x pc L (.int b :: .int a :: st) P cs ss := by
  obtain ⟨p, l, e, R, s, m, args, below, meth, c, Q, D, A, nL⟩ := x
  obtain ⟨hx, hb, hml, hown, hts, hK, hA, hlk, hr, hR⟩ := hx
  subst hp
  intro G sz H locs ls a1 a2 a3 a4 a5 a6
  exact lv_iand hx hb d (k G sz H locs ls a1 a2 a3 a4 a5 a6)
theorem v_ior (hx : CX x cc own rm ret) {a b : Int32} (d : decode cc pc = .ok (.ior, 1)) (hp : pc + 1 = pc') (k : V x pc' L (.int (a ||| b) :: st) P cs ss) : V x pc L (.int b :: .int a :: st) P cs ss := by
  obtain ⟨p, l, e, R, s, m, args, below, meth, c, Q, D, A, nL⟩ := x
  obtain ⟨hx, hb, hml, hown, hts, hK, hA, hlk, hr, hR⟩ := hx
  subst hp
  intro G sz H locs ls a1 a2 a3 a4 a5 a6
  exact lv_ior hx hb d (k G sz H locs ls a1 a2 a3 a4 a5 a6)
theorem v_ixor (hx : CX x cc own rm ret) {a b : Int32} (d : decode cc pc = .ok (.ixor, 1)) (hp : pc + 1 = pc') (k : V x pc' L (.int (a ^^^ b) :: st) P cs ss) : V x pc L (.int b :: .int a :: st) P cs ss := by
  obtain ⟨p, l, e, R, s, m, args, below, meth, c, Q, D, A, nL⟩ := x
  obtain ⟨hx, hb, hml, hown, hts, hK, hA, hlk, hr, hR⟩ := hx
  subst hp
  intro G sz H locs ls a1 a2 a3 a4 a5 a6
  exact lv_ixor hx hb d (k G sz H locs ls a1 a2 a3 a4 a5 a6)
theorem v_ishl (hx : CX x cc own rm ret) {a b : Int32} (d : decode cc pc = .ok (.ishl, 1)) (hp : pc + 1 = pc') (k : V x pc' L (.int (a <<< (b &&& 31)) :: st) P cs ss) : V x pc L (.int b :: .int a :: st) P cs ss := by
  obtain ⟨p, l, e, R, s, m, args, below, meth, c, Q, D, A, nL⟩ := x
  obtain ⟨hx, hb, hml, hown, hts, hK, hA, hlk, hr, hR⟩ := hx
  subst hp
  intro G sz H locs ls a1 a2 a3 a4 a5 a6
  exact lv_ishl hx hb d (k G sz H locs ls a1 a2 a3 a4 a5 a6)
theorem v_ishr (hx : CX x cc own rm ret) {a b : Int32} (d : decode cc pc = .ok (.ishr, 1)) (hp : pc + 1 = pc') (k : V x pc' L (.int (a >>> (b &&& 31)) :: st) P cs ss) : V x pc L (.int b :: .int a :: st) P cs ss := by
  obtain ⟨p, l, e, R, s, m, args, below, meth, c, Q, D, A, nL⟩ := x
  obtain ⟨hx, hb, hml, hown, hts, hK, hA, hlk, hr, hR⟩ := hx
  subst hp
  intro G sz H locs ls a1 a2 a3 a4 a5 a6
  exact lv_ishr hx hb d (k G sz H locs ls a1 a2 a3 a4 a5 a6)
theorem v_idiv (hx : CX x cc own rm ret) {a b : Int32} (d : decode cc pc = .ok (.idiv, 1)) (hne : ¬ b = 0) (hp : pc + 1 = pc') (k : V x pc' L (.int (a / b) :: st) P cs ss) : V x pc L (.int b :: .int a :: st) P cs ss := by
  obtain ⟨p, l, e, R, s, m, args, below, meth, c, Q, D, A, nL⟩ := x
  obtain ⟨hx, hb, hml, hown, hts, hK, hA, hlk, hr, hR⟩ := hx
  subst hp
  intro G sz H locs ls a1 a2 a3 a4 a5 a6
  exact lv_idiv hx hb d hne (k G sz H locs ls a1 a2 a3 a4 a5 a6)
theorem v_irem (hx : CX x cc own rm ret) {a b : Int32} (d : decode cc pc = .ok (.irem, 1)) (hne : ¬ b = 0) (hp : pc + 1 = pc') (k : V x pc' L (.int (a - a / b * b) :: st) P cs ss) : V x pc L (.int b :: .int a :: st) P cs ss := by
  obtain ⟨p, l, e, R, s, m, args, below, meth, c, Q, D, A, nL⟩ := x
  obtain ⟨hx, hb, hml, hown, hts, hK, hA, hlk, hr, hR⟩ := hx
  subst hp
  intro G sz H locs ls a1 a2 a3 a4 a5 a6
  exact lv_irem hx hb d hne (k G sz H locs ls a1 a2 a3 a4 a5 a6)
theorem v_i2b (hx : CX x cc own rm ret) {a : Int32} (d : decode cc pc = .ok (.i2b, 1)) (hp : pc + 1 = pc') (k : V x pc' L (.int a.toInt8.toInt32 :: st) P cs ss) : V x pc L (.int a :: st) P cs ss := by
  obtain ⟨p, l, e, R, s, m, args, below, meth, c, Q, D, A, nL⟩ := x
  obtain ⟨hx, hb, hml, hown, hts, hK, hA, hlk, hr, hR⟩ := hx
  subst hp
  intro G sz H locs ls a1 a2 a3 a4 a5 a6
  exact lv_i2b hx hb d rfl (k G sz H locs ls a1 a2 a3 a4 a5 a6)
theorem v_dup (hx : CX x cc own rm ret) {v : Value} (d : decode cc pc = .ok (.dup, 1)) (hc : v.category = 1) (hp : pc + 1 = pc') (k : V x pc' L (v :: v :: st) P cs ss) : V x pc L (v :: st) P cs ss := by
  obtain ⟨p, l, e, R, s, m, args, below, meth, c, Q, D, A, nL⟩ := x
  obtain ⟨hx, hb, hml, hown, hts, hK, hA, hlk, hr, hR⟩ := hx
  subst hp
  intro G sz H locs ls a1 a2 a3 a4 a5 a6
  exact lv_dup hx hb d hc (k G sz H locs ls a1 a2 a3 a4 a5 a6)
theorem v_dup2 (hx : CX x cc own rm ret) {v u : Value} (d : decode cc pc = .ok (.dup2, 1)) (hc : v.category = 1) (hd : u.category = 1) (hp : pc + 1 = pc') (k : V x pc' L (v :: u :: v :: u :: st) P cs ss) : V x pc L (v :: u :: st) P cs ss := by
  obtain ⟨p, l, e, R, s, m, args, below, meth, c, Q, D, A, nL⟩ := x
  obtain ⟨hx, hb, hml, hown, hts, hK, hA, hlk, hr, hR⟩ := hx
  subst hp
  intro G sz H locs ls a1 a2 a3 a4 a5 a6
  exact lv_dup2_11 hx hb d hc hd (k G sz H locs ls a1 a2 a3 a4 a5 a6)
theorem v_icmp_eq (hx : CX x cc own rm ret) {a b : Int32} {off : Int} {tgt : Nat} (d : decode cc pc = .ok (.if_icmp .eq off, 3)) (ht : (pc : Int) + off = (tgt : Int)) (hp : pc + 3 = pc') (kt : a = b → V x tgt L st P cs ss) (kf : ¬ (a = b) → V x pc' L st P cs ss) : V x pc L (.int b :: .int a :: st) P cs ss := by
  obtain ⟨p, l, e, R, s, m, args, below, meth, c, Q, D, A, nL⟩ := x
  obtain ⟨hx, hb, hml, hown, hts, hK, hA, hlk, hr, hR⟩ := hx
  subst hp
  intro G sz H locs ls a1 a2 a3 a4 a5 a6
  exact lv_icmp_eq hx hb d ht (fun q => kt q G sz H locs ls a1 a2 a3 a4 a5 a6) (fun q => kf q G sz H locs ls a1 a2 a3 a4 a5 a6)
theorem v_if_eq (hx : CX x cc own rm ret) {a : Int32} {off : Int} {tgt : Nat} (d : decode cc pc = .ok (.ifCond .eq off, 3)) (ht : (pc : Int) + off = (tgt : Int)) (hp : pc + 3 = pc') (kt : a = 0 → V x tgt L st P cs ss) (kf : ¬ (a = 0) → V x pc' L st P cs ss) : V x pc L (.int a :: st) P cs ss := by
  obtain ⟨p, l, e, R, s, m, args, below, meth, c, Q, D, A, nL⟩ := x
  obtain ⟨hx, hb, hml, hown, hts, hK, hA, hlk, hr, hR⟩ := hx
  subst hp
  intro G sz H locs ls a1 a2 a3 a4 a5 a6
  exact lv_if_eq hx hb d ht (fun q => kt q G sz H locs ls a1 a2 a3 a4 a5 a6) (fun q => kf q G sz H locs ls a1 a2 a3 a4 a5 a6)
theorem v_icmp_ne (hx : CX x cc own rm ret) {a b : Int32} {off : Int} {tgt : Nat} (d : decode cc pc = .ok (.if_icmp .ne off, 3)) (ht : (pc : Int) + off = (tgt : Int)) (hp : pc + 3 = pc') (kt : ¬ a = b → V x tgt L st P cs ss) (kf : a = b → V x pc' L st P cs ss) : V x pc L (.int b :: .int a :: st) P cs ss := by
  obtain ⟨p, l, e, R, s, m, args, below, meth, c, Q, D, A, nL⟩ := x
  obtain ⟨hx, hb, hml, hown, hts, hK, hA, hlk, hr, hR⟩ := hx
  subst hp
  intro G sz H locs ls a1 a2 a3 a4 a5 a6
  exact lv_icmp_ne hx hb d ht (fun q => kt q G sz H locs ls a1 a2 a3 a4 a5 a6) (fun q => kf q G sz H locs ls a1 a2 a3 a4 a5 a6)
theorem v_if_ne (hx : CX x cc own rm ret) {a : Int32} {off : Int} {tgt : Nat} (d : decode cc pc = .ok (.ifCond .ne off, 3)) (ht : (pc : Int) + off = (tgt : Int)) (hp : pc + 3 = pc') (kt : ¬ a = 0 → V x tgt L st P cs ss) (kf : a = 0 → V x pc' L st P cs ss) : V x pc L (.int a :: st) P cs ss := by
  obtain ⟨p, l, e, R, s, m, args, below, meth, c, Q, D, A, nL⟩ := x
  obtain ⟨hx, hb, hml, hown, hts, hK, hA, hlk, hr, hR⟩ := hx
  subst hp
  intro G sz H locs ls a1 a2 a3 a4 a5 a6
  exact lv_if_ne hx hb d ht (fun q => kt q G sz H locs ls a1 a2 a3 a4 a5 a6) (fun q => kf q G sz H locs ls a1 a2 a3 a4 a5 a6)
theorem v_icmp_lt (hx : CX x cc own rm ret) {a b : Int32} {off : Int} {tgt : Nat} (d : decode cc pc = .ok (.if_icmp .lt off, 3)) (ht : (pc : Int) + off = (tgt : Int)) (hp : pc + 3 = pc') (kt : a < b → V x tgt L st P cs ss) (kf : ¬ (a < b) → V x pc' L st P cs ss) : V x pc L (.int b :: .int a :: st) P cs ss := by
  obtain ⟨p, l, e, R, s, m, args, below, meth, c, Q, D, A, nL⟩ := x
  obtain ⟨hx, hb, hml, hown, hts, hK, hA, hlk, hr, hR⟩ := hx
  subst hp
  intro G sz H locs ls a1 a2 a3 a4 a5 a6
  exact lv_icmp_lt hx hb d ht (fun q => kt q G sz H locs ls a1 a2 a3 a4 a5 a6) (fun q => kf q G sz H locs ls a1 a2 a3 a4 a5 a6)
theorem v_if_lt (hx : CX x cc own rm ret) {a : Int32} {off : Int} {tgt : Nat} (d : decode cc pc = .ok (.ifCond .lt off, 3)) (ht : (pc : Int) + off = (tgt : Int)) (hp : pc + 3 = pc') (kt : a < 0 → V x tgt L st P cs ss) (kf : ¬ (a < 0) → V x pc' L st P cs ss) : V x pc L (.int a :: st) P cs ss := by
  obtain ⟨p, l, e, R, s, m, args, below, meth, c, Q, D, A, nL⟩ := x
  obtain ⟨hx, hb, hml, hown, hts, hK, hA, hlk, hr, hR⟩ := hx
  subst hp
  intro G sz H locs ls a1 a2 a3 a4 a5 a6
  exact lv_if_lt hx hb d ht (fun q => kt q G sz H locs ls a1 a2 a3 a4 a5 a6) (fun q => kf q G sz H locs ls a1 a2 a3 a4 a5 a6)
theorem v_icmp_ge (hx : CX x cc own rm ret) {a b : Int32} {off : Int} {tgt : Nat} (d : decode cc pc = .ok (.if_icmp .ge off, 3)) (ht : (pc : Int) + off = (tgt : Int)) (hp : pc + 3 = pc') (kt : b ≤ a → V x tgt L st P cs ss) (kf : ¬ (b ≤ a) → V x pc' L st P cs ss) : V x pc L (.int b :: .int a :: st) P cs ss := by
  obtain ⟨p, l, e, R, s, m, args, below, meth, c, Q, D, A, nL⟩ := x
  obtain ⟨hx, hb, hml, hown, hts, hK, hA, hlk, hr, hR⟩ := hx
  subst hp
  intro G sz H locs ls a1 a2 a3 a4 a5 a6
  exact lv_icmp_ge hx hb d ht (fun q => kt q G sz H locs ls a1 a2 a3 a4 a5 a6) (fun q => kf q G sz H locs ls a1 a2 a3 a4 a5 a6)
theorem v_if_ge (hx : CX x cc own rm ret) {a : Int32} {off : Int} {tgt : Nat} (d : decode cc pc = .ok (.ifCond .ge off, 3)) (ht : (pc : Int) + off = (tgt : Int)) (hp : pc + 3 = pc') (kt : 0 ≤ a → V x tgt L st P cs ss) (kf : ¬ (0 ≤ a) → V x pc' L st P cs ss) : V x pc L (.int a :: st) P cs ss := by
  obtain ⟨p, l, e, R, s, m, args, below, meth, c, Q, D, A, nL⟩ := x
  obtain ⟨hx, hb, hml, hown, hts, hK, hA, hlk, hr, hR⟩ := hx
  subst hp
  intro G sz H locs ls a1 a2 a3 a4 a5 a6
  exact lv_if_ge hx hb d ht (fun q => kt q G sz H locs ls a1 a2 a3 a4 a5 a6) (fun q => kf q G sz H locs ls a1 a2 a3 a4 a5 a6)
theorem v_icmp_gt (hx : CX x cc own rm ret) {a b : Int32} {off : Int} {tgt : Nat} (d : decode cc pc = .ok (.if_icmp .gt off, 3)) (ht : (pc : Int) + off = (tgt : Int)) (hp : pc + 3 = pc') (kt : b < a → V x tgt L st P cs ss) (kf : ¬ (b < a) → V x pc' L st P cs ss) : V x pc L (.int b :: .int a :: st) P cs ss := by
  obtain ⟨p, l, e, R, s, m, args, below, meth, c, Q, D, A, nL⟩ := x
  obtain ⟨hx, hb, hml, hown, hts, hK, hA, hlk, hr, hR⟩ := hx
  subst hp
  intro G sz H locs ls a1 a2 a3 a4 a5 a6
  exact lv_icmp_gt hx hb d ht (fun q => kt q G sz H locs ls a1 a2 a3 a4 a5 a6) (fun q => kf q G sz H locs ls a1 a2 a3 a4 a5 a6)
theorem v_if_gt (hx : CX x cc own rm ret) {a : Int32} {off : Int} {tgt : Nat} (d : decode cc pc = .ok (.ifCond .gt off, 3)) (ht : (pc : Int) + off = (tgt : Int)) (hp : pc + 3 = pc') (kt : 0 < a → V x tgt L st P cs ss) (kf : ¬ (0 < a) → V x pc' L st P cs ss) : V x pc L (.int a :: st) P cs ss := by
  obtain ⟨p, l, e, R, s, m, args, below, meth, c, Q, D, A, nL⟩ := x
  obtain ⟨hx, hb, hml, hown, hts, hK, hA, hlk, hr, hR⟩ := hx
  subst hp
  intro G sz H locs ls a1 a2 a3 a4 a5 a6
  exact lv_if_gt hx hb d ht (fun q => kt q G sz H locs ls a1 a2 a3 a4 a5 a6) (fun q => kf q G sz H locs ls a1 a2 a3 a4 a5 a6)
theorem v_icmp_le (hx : CX x cc own rm ret) {a b : Int32} {off : Int} {tgt : Nat} (d : decode cc pc = .ok (.if_icmp .le off, 3)) (ht : (pc : Int) + off = (tgt : Int)) (hp : pc + 3 = pc') (kt : a ≤ b → V x tgt L st P cs ss) (kf : ¬ (a ≤ b) → V x pc' L st P cs ss) : V x pc L (.int b :: .int a :: st) P cs ss := by
  obtain ⟨p, l, e, R, s, m, args, below, meth, c, Q, D, A, nL⟩ := x
  obtain ⟨hx, hb, hml, hown, hts, hK, hA, hlk, hr, hR⟩ := hx
  subst hp
  intro G sz H locs ls a1 a2 a3 a4 a5 a6
  exact lv_icmp_le hx hb d ht (fun q => kt q G sz H locs ls a1 a2 a3 a4 a5 a6) (fun q => kf q G sz H locs ls a1 a2 a3 a4 a5 a6)
theorem v_if_le (hx : CX x cc own rm ret) {a : Int32} {off : Int} {tgt : Nat} (d : decode cc pc = .ok (.ifCond .le off, 3)) (ht : (pc : Int) + off = (tgt : Int)) (hp : pc + 3 = pc') (kt : a ≤ 0 → V x tgt L st P cs ss) (kf : ¬ (a ≤ 0) → V x pc' L st P cs ss) : V x pc L (.int a :: st) P cs ss := by
  obtain ⟨p, l, e, R, s, m, args, below, meth, c, Q, D, A, nL⟩ := x
  obtain ⟨hx, hb, hml, hown, hts, hK, hA, hlk, hr, hR⟩ := hx
  subst hp
  intro G sz H locs ls a1 a2 a3 a4 a5 a6
  exact lv_if_le hx hb d ht (fun q => kt q G sz H locs ls a1 a2 a3 a4 a5 a6) (fun q => kf q G sz H locs ls a1 a2 a3 a4 a5 a6)
theorem v_ifnull (hx : CX x cc own rm ret) {r : Option Nat} {off : Int} {tgt : Nat} (d : decode cc pc = .ok (.ifnull off, 3)) (ht : (pc : Int) + off = (tgt : Int)) (hp : pc + 3 = pc') (kt : r = none → V x tgt L st P cs ss) (kf : ∀ a, r = some a → V x pc' L st P cs ss) : V x pc L (va_rf r :: st) P cs ss := by
  obtain ⟨p, l, e, R, s, m, args, below, meth, c, Q, D, A, nL⟩ := x
  obtain ⟨hx, hb, hml, hown, hts, hK, hA, hlk, hr, hR⟩ := hx
  subst hp
  intro G sz H locs ls a1 a2 a3 a4 a5 a6
  cases r with
  | none => exact lv_ifnullN hx hb d ht (kt rfl G sz H locs ls a1 a2 a3 a4 a5 a6)
  | some a => exact lv_ifnull hx hb d (kf a rfl G sz H locs ls a1 a2 a3 a4 a5 a6)
theorem v_ifnonnull (hx : CX x cc own rm ret) {r : Option Nat} {off : Int} {tgt : Nat} (d : decode cc pc = .ok (.ifnonnull off, 3)) (ht : (pc : Int) + off = (tgt : Int)) (hp : pc + 3 = pc') (kt : ∀ a, r = some a → V x tgt L st P cs ss) (kf : r = none → V x pc' L st P cs ss) : V x pc L (va_rf r :: st) P cs ss := by
  obtain ⟨p, l, e, R, s, m, args, below, meth, c, Q, D, A, nL⟩ := x
  obtain ⟨hx, hb, hml, hown, hts, hK, hA, hlk, hr, hR⟩ := hx
  subst hp
  intro G sz H locs ls a1 a2 a3 a4 a5 a6
  cases r with
  | none => exact lv_ifnonnullN hx hb d (kf rfl G sz H locs ls a1 a2 a3 a4 a5 a6)
  | some a => exact lv_ifnonnull hx hb d ht (kt a rfl G sz H locs ls a1 a2 a3 a4 a5 a6)
theorem v_goto (hx : CX x cc own rm ret) {off : Int} {tgt : Nat} (d : decode cc pc = .ok (.goto off, 3)) (ht : (pc : Int) + off = (tgt : Int)) (k : V x tgt L st P cs ss) : V x pc L st P cs ss := by
  obtain ⟨p, l, e, R, s, m, args, below, meth, c, Q, D, A, nL⟩ := x
  obtain ⟨hx, hb, hml, hown, hts, hK, hA, hlk, hr, hR⟩ := hx
  intro G sz H locs ls a1 a2 a3 a4 a5 a6
  exact lv_goto hx hb d ht (k G sz H locs ls a1 a2 a3 a4 a5 a6)
theorem v_tblOut (hx : CX x cc own rm ret) {dflt lo hi : Int} {offs : Array Int} {len : Nat} {a : Int32} {tgt : Nat} (d : decode cc pc = .ok (.tableswitch dflt lo hi offs, len)) (h : a.toInt < lo ∨ hi < a.toInt) (ht : (pc : Int) + dflt = (tgt : Int)) (k : V x tgt L st P cs ss) : V x pc L (.int a :: st) P cs ss := by
  obtain ⟨p, l, e, R, s, m, args, below, meth, c, Q, D, A, nL⟩ := x
  obtain ⟨hx, hb, hml, hown, hts, hK, hA, hlk, hr, hR⟩ := hx
  intro G sz H locs ls a1 a2 a3 a4 a5 a6
  exact lv_tableOut hx hb d h ht (k G sz H locs ls a1 a2 a3 a4 a5 a6)
theorem v_tblIn (hx : CX x cc own rm ret) {dflt lo hi : Int} {offs : Array Int} {len : Nat} {a : Int32} {off : Int} {tgt : Nat} (d : decode cc pc = .ok (.tableswitch dflt lo hi offs, len)) (h1 : ¬ a.toInt < lo) (h2 : ¬ hi < a.toInt) (ho : offs[(a.toInt - lo).toNat]? = some off) (ht : (pc : Int) + off = (tgt : Int)) (k : V x tgt L st P cs ss) : V x pc L (.int a :: st) P cs ss := by
  obtain ⟨p, l, e, R, s, m, args, below, meth, c, Q, D, A, nL⟩ := x
  obtain ⟨hx, hb, hml, hown, hts, hK, hA, hlk, hr, hR⟩ := hx
  intro G sz H locs ls a1 a2 a3 a4 a5 a6
  exact lv_tableIn hx hb d h1 h2 ho ht (k G sz H locs ls a1 a2 a3 a4 a5 a6)
end ZV
end
section
/-! memory: fields and arrays of the typed world -/
def FL (own : String) (index c k : Nat) : Prop := Cond.fieldLink own index (RR c) (TT c k).2.1 (TT c k).2.2.1 ∈ TBG ∨ ∃ host, Cond.fieldLinkNest own index (RR c) (TT c k).2.1 (TT c k).2.2.1 host ∈ TBN
def ix (i : Int32) (n : Nat) : Bool := decide (¬ (i < 0 ∨ n ≤ i.toNatClampNeg))
theorem ix_in {i : Int32} {n : Nat} (h : ix i n = true) : vp_in i n := by
  unfold ix at h
  unfold vp_in
  exact of_decide_eq_true h
theorem GP_one {D : DD} {G : GT} {H : Heap} (hP : GP D G H) {a : Nat} {e : va_E} (hg : G a = some e) : va_P D.1 vwCl [(a, e)] H := by
  intro i q hq
  match i, hq with
  | 0, hq => cases hq; exact hP a _ hg
  | i + 1, hq => simp at hq
theorem GP_set {D : DD} {G : GT} {H H1 : Heap} {a : Nat} {e : va_E} (hP : GP D G H) (oq : ∀ q : Nat, q ≠ a → H1[q]? = H[q]?) (h : va_at D.1 vwCl (a, e) H1) : GP D (gset G a e) H1 := by
  intro b e' hb
  by_cases q : b = a
  · subst q
    rw [gset_s] at hb
    cases hb
    exact h
  · rw [gset_n _ _ q] at hb
    exact (hP b e' hb).kept (oq b q)
section ZG
variable {p : Program} {l : Launch} {e : Env} {R : Room} {s : State} {m : MethodId} {args : Array Value} {below : List Frame} {meth : Method} {c : Code} {H : Heap} {locs : List Loc} {cells slots : Nat} {Q : State → Prop}
variable {cc : ByteArray} {pc : Nat} {ls : Array Slot} {rest : List Value} {D : DD} {G : GT} {A : Nat → Prop} {H0 : Heap} {own : String}
theorem G_get (hexec : p.tables.exec = Jvm.exec) (hb : c.code = cc) (hown : s.vm.findClass own = some m.cls) (hts : ∀ w ∈ TBG, w.before args s = true) (hK : KB D s) (hP : GP D G H) {ci a k index : Nat} {fs : List Value} {v : Value} (hg : G a = some (.inr (ci, fs))) (hci : ci < 7) (hk : k < nF ci) (hfl : FL own index ci k) (hv : fs[k]? = some v) (hdg : decode cc pc = .ok (.getfield index, 3))
    (kk : W p l e R s m args below meth c H locs cells slots Q (F0 m (pc + 3) ls (v :: rest))) : W p l e R s m args below meth c H locs cells slots Q (F0 m pc ls (.ref a :: rest)) := by
  have hsame : ∀ y, s.fieldFound? (TT ci k).1 (TT ci k).2.1 (TT ci k).2.2.1 = some y → s.fieldFound? (RR ci) (TT ci k).2.1 (TT ci k).2.2.1 = some y := fun y hy => by rw [zOwn ci hci k hk] at hy; exact hy
  rcases hfl with h | ⟨host, h⟩
  · exact va_get hexec hb hts (zIn_ok ci hci) hown hK.1 (GP_one hP hg) 0 rfl (zCl_ok ci hci) k hk (hts _ h) hsame hv hdg kk
  · exact va_getN hexec hb hts (zIn_ok ci hci) hown hK.1 (GP_one hP hg) 0 rfl (zCl_ok ci hci) k hk (va_Nw.use rfl (hK.2.1 _ h)) hsame hv hdg kk
theorem G_put (hexec : p.tables.exec = Jvm.exec) (hb : c.code = cc) (hown : s.vm.findClass own = some m.cls) (hts : ∀ w ∈ TBG, w.before args s = true) (hK : KB D s) (hP : GP D G H) (hS0 : va_S A H0 H locs) {ci a k index : Nat} {fs : List Value} {v : Value} (hg : G a = some (.inr (ci, fs))) (hAa : A a) (hci : ci < 7) (hk : k < nF ci) (hfl : FL own index ci k) (hfin : (TT ci k).2.2.2 = false) (hn : narrow (TYs ci k) v = v) (hfit : fits (TYs ci k) v = true) (hl : k < fs.length) (hdg : decode cc pc = .ok (.putfield index, 3))
    (kk : ∀ (H1 : Heap) (locs1 : List Loc), H1.size = H.size → GP D (gset G a (.inr (ci, fs.set k v))) H1 → va_S A H0 H1 locs1 → W p l e R s m args below meth c H1 locs1 cells slots Q (F0 m (pc + 3) ls rest)) : W p l e R s m args below meth c H locs cells slots Q (F0 m pc ls (v :: .ref a :: rest)) := by
  have hap := va_apart (own := own) hts (zIn_ok ci hci) (TYs ci) (zTy_ok ci hci) (zNm_ok ci hci) hK.1 (zCl_ok ci hci)
  obtain ⟨r, h1, cell, q1, q2, q3, q4⟩ := hP a _ hg
  have hr : r = (RR ci, TT ci, nF ci) := Option.some.inj (h1.symm.trans (zCl_ok ci hci))
  subst hr
  obtain ⟨hS, hfc, kC, hkC, hkind⟩ := hK.1.1 ci _ (zCl_ok ci hci)
  obtain ⟨cf, kf, fi, f, hi, hsl⟩ := hS k hk
  have hi2 : s.fieldFound? (RR ci) (TT ci k).2.1 (TT ci k).2.2.1 = some (cf, kf, fi, f) := by rw [← zOwn ci hci k hk]; exact hi
  have hlay := hts _ (zIn_ok ci hci _ (u_in_lay hk))
  unfold u_lay at hlay
  rw [if_neg (by rw [hfin]; decide)] at hlay
  have hst := (u_facts hfc hkC (u_lays hts (zIn_ok ci hci) hk) hi).1
  have h6 := u_store hfc hkC hkind hlay hi (zTy_ok ci hci k hk) hn hfit
  have fin : ∀ H' : Heap, H'[a]? = some (cell.setSlot f.slot v) → H'.size = H.size → (∀ q, q ≠ a → H'[q]? = H[q]?) → W p l e R s m args below meth c H' (locs ++ [⟨a, f.slot⟩]) cells slots Q (F0 m (pc + 3) ls rest) := by
    intro H' e1 e2 e3
    rw [hsl] at e1
    exact kk H' _ e2 (GP_set hP e3 ⟨_, zCl_ok ci hci, t_OB.to (V := updV (vp_V fs) k v) ⟨_, e1, q2, q3, t_set q4 hap hk v⟩ (fun j _ => vp_updV_set hl v j)⟩) (hS0.put e2 e3 hAa)
  rcases hfl with h | ⟨host, h⟩
  · exact W.putK hexec hb (f := f) ⟨hown, hts _ h, ⟨_, _, _, hi2⟩, hst⟩ (by rw [q2]; exact h6) q1 q3 (by rw [hsl]; exact k2_hasslot (q4 k hk)) rfl rfl hdg fin
  · exact va_WputK hexec hb (f := f) hown (va_Nw.use rfl (hK.2.1 _ h)) hi2 hst (by rw [q2]; exact h6) q1 q3 (by rw [hsl]; exact k2_hasslot (q4 k hk)) rfl rfl hdg fin
theorem G_putF (hexec : p.tables.exec = Jvm.exec) (hb : c.code = cc) (hown : s.vm.findClass own = some m.cls) (hts : ∀ w ∈ TBG, w.before args s = true) (hK : KB D s) (hP : GP D G H) (hS0 : va_S A H0 H locs) {ci a k index : Nat} {fs : List Value} {v : Value} (hg : G a = some (.inr (ci, fs))) (hAa : A a) (hci : ci < 7) (hk : k < nF ci) (hfl : Cond.fieldLink own index (RR ci) (TT ci k).2.1 (TT ci k).2.2.1 ∈ TBG) (hfin : (TT ci k).2.2.2 = true) (hin2 : meth.name = "<init>") (hdecl : RR ci = own) (hn : narrow (TYs ci k) v = v) (hfit : fits (TYs ci k) v = true) (hl : k < fs.length) (hdg : decode cc pc = .ok (.putfield index, 3))
    (kk : ∀ (H1 : Heap) (locs1 : List Loc), H1.size = H.size → GP D (gset G a (.inr (ci, fs.set k v))) H1 → va_S A H0 H1 locs1 → W p l e R s m args below meth c H1 locs1 cells slots Q (F0 m (pc + 3) ls rest)) : W p l e R s m args below meth c H locs cells slots Q (F0 m pc ls (v :: .ref a :: rest)) := by
  have hap := va_apart (own := own) hts (zIn_ok ci hci) (TYs ci) (zTy_ok ci hci) (zNm_ok ci hci) hK.1 (zCl_ok ci hci)
  obtain ⟨r, h1, cell, q1, q2, q3, q4⟩ := hP a _ hg
  have hr : r = (RR ci, TT ci, nF ci) := Option.some.inj (h1.symm.trans (zCl_ok ci hci))
  subst hr
  obtain ⟨hS, hfc, kC, hkC, hkind⟩ := hK.1.1 ci _ (zCl_ok ci hci)
  obtain ⟨cf, kf, fi, f, hi, hsl⟩ := hS k hk
  have hi2 : s.fieldFound? (RR ci) (TT ci k).2.1 (TT ci k).2.2.1 = some (cf, kf, fi, f) := by rw [← zOwn ci hci k hk]; exact hi
  have hlay := hts _ (zIn_ok ci hci _ (u_in_lay hk))
  unfold u_lay at hlay
  rw [if_pos hfin] at hlay
  have hst := (u_facts hfc hkC (u_lays hts (zIn_ok ci hci) hk) hi).1
  have hcf : m.cls = cf := by
    obtain ⟨_, _, c', _, _, _, -, -, hf', -, -, -, hown2, -⟩ := Cond.laysFinal_spec hlay
    have e1 : c' = cf := by have := hi.symm.trans hf'; simp at this; exact this.1.symm
    rw [zOwn ci hci k hk, hdecl] at hown2
    rw [← e1]; exact Option.some.inj (hown.symm.trans hown2)
  have h6 := u_fits hfc hkC hkind (Or.inr hlay) hi (zTy_ok ci hci k hk) hn hfit
  refine W.putFinK hexec hb hown (hts _ hfl) hi2 hst hcf hin2 (by rw [q2]; exact h6) q1 q3 (by rw [hsl]; exact k2_hasslot (q4 k hk)) rfl rfl hdg fun H' e1 e2 e3 => ?_
  rw [hsl] at e1 ⊢
  exact kk H' _ e2 (GP_set hP e3 ⟨_, zCl_ok ci hci, t_OB.to (V := updV (vp_V fs) k v) ⟨_, e1, q2, q3, t_set q4 hap hk v⟩ (fun j _ => vp_updV_set hl v j)⟩) (hS0.put e2 e3 hAa)
theorem G_iast (hexec : p.tables.exec = Jvm.exec) (hb : c.code = cc) (hK : KB D s) (hP : GP D G H) (hS : va_S A H0 H locs) {a n : Nat} {f : Nat → Int32} (hg : G a = some (.inl (D.2 0, n, .inl f))) (hAa : A a) {i x : Int32} (hin : vp_in i n) (hdg : decode cc pc = .ok (.iastore, 1))
    (kk : ∀ (H1 : Heap) (locs1 : List Loc), H1.size = H.size → GP D (gset G a (.inl (D.2 0, n, .inl (upd f i.toNatClampNeg x)))) H1 → va_S A H0 H1 locs1 → W p l e R s m args below meth c H1 locs1 cells slots Q (F0 m (pc + 1) ls rest)) : W p l e R s m args below meth c H locs cells slots Q (F0 m pc ls (.int x :: .int i :: .ref a :: rest)) := by
  refine W.iast hexec hb (hP a _ hg) ((hK.1.2 0 _ rfl).1 n (fun j => .int (f j))) (fun q => by cases q) (by show ¬ (i < 0 ∨ (arrV _ _ _).slots.size ≤ _); rw [arrV_size]; exact hin) rfl rfl hdg fun H1 e z oq => ?_
  refine kk H1 _ z (GP_set hP oq ?_) (hS.put z oq hAa)
  show H1[a]? = some (vp_cell _ _)
  rw [e, vp_cell_i, vp_cell_i, arrV_store]
  congr 2
  funext q
  by_cases hq : q = i.toNatClampNeg
  · subst hq
    simp [updV, upd]
  · simp [updV, upd, hq]
theorem G_bast (hexec : p.tables.exec = Jvm.exec) (hb : c.code = cc) (hK : KB D s) (hP : GP D G H) (hS : va_S A H0 H locs) {a n : Nat} {f : Nat → Int32} (hg : G a = some (.inl (D.2 1, n, .inl f))) (hAa : A a) {i x : Int32} (hin : vp_in i n) (hdg : decode cc pc = .ok (.bastore, 1))
    (kk : ∀ (H1 : Heap) (locs1 : List Loc), H1.size = H.size → GP D (gset G a (.inl (D.2 1, n, .inl (upd f i.toNatClampNeg (vp_nar .byte x))))) H1 → va_S A H0 H1 locs1 → W p l e R s m args below meth c H1 locs1 cells slots Q (F0 m (pc + 1) ls rest)) : W p l e R s m args below meth c H locs cells slots Q (F0 m pc ls (.int x :: .int i :: .ref a :: rest)) := by
  refine W.bast hexec hb (hP a _ hg) ((hK.1.2 1 _ rfl).1 n (fun j => .int (f j))) (fun q => by cases q) (by show ¬ (i < 0 ∨ (arrV _ _ _).slots.size ≤ _); rw [arrV_size]; exact hin) rfl rfl hdg fun H1 e z oq => ?_
  refine kk H1 _ z (GP_set hP oq ?_) (hS.put z oq hAa)
  show H1[a]? = some (vp_cell _ _)
  rw [e, vp_cell_i, vp_cell_i, arrV_store]
  congr 2
  funext q
  by_cases hq : q = i.toNatClampNeg
  · subst hq
    simp [updV, upd, vp_nar]
    try rfl
  · simp [updV, upd, hq]
theorem G_zast (hexec : p.tables.exec = Jvm.exec) (hb : c.code = cc) (hK : KB D s) (hP : GP D G H) (hS : va_S A H0 H locs) {a n : Nat} {f : Nat → Int32} (hg : G a = some (.inl (D.2 2, n, .inl f))) (hAa : A a) {i x : Int32} (hin : vp_in i n) (hdg : decode cc pc = .ok (.bastore, 1))
    (kk : ∀ (H1 : Heap) (locs1 : List Loc), H1.size = H.size → GP D (gset G a (.inl (D.2 2, n, .inl (upd f i.toNatClampNeg (vp_nar .boolean x))))) H1 → va_S A H0 H1 locs1 → W p l e R s m args below meth c H1 locs1 cells slots Q (F0 m (pc + 1) ls rest)) : W p l e R s m args below meth c H locs cells slots Q (F0 m pc ls (.int x :: .int i :: .ref a :: rest)) := by
  refine W.zast hexec hb (hP a _ hg) ((hK.1.2 2 _ rfl).1 n (fun j => .int (f j))) (fun q => by cases q) (by show ¬ (i < 0 ∨ (arrV _ _ _).slots.size ≤ _); rw [arrV_size]; exact hin) rfl rfl hdg fun H1 e z oq => ?_
  refine kk H1 _ z (GP_set hP oq ?_) (hS.put z oq hAa)
  show H1[a]? = some (vp_cell _ _)
  rw [e, vp_cell_i, vp_cell_i, arrV_store]
  congr 2
  funext q
  by_cases hq : q = i.toNatClampNeg
  · subst hq
    simp [updV, upd, vp_nar]
    try rfl
  · simp [updV, upd, hq]
theorem G_aast (hexec : p.tables.exec = Jvm.exec) (hb : c.code = cc) (hK : KB D s) (hP : GP D G H) (hS : va_S A H0 H locs) {a n v ci t0 : Nat} {fs : List Value} {f : Nat → Option Nat} (hg : G a = some (.inl (D.2 t0, n, .inr (.inr (.inr (.inr f)))))) (hAa : A a) (hci : ci < 7) (ht : (TYA D)[t0]? = some (D.2 t0, .object (RR ci))) (hv : G v = some (.inr (ci, fs))) {i : Int32} (hin : vp_in i n) (hdg : decode cc pc = .ok (.aastore, 1))
    (kk : ∀ (H1 : Heap) (locs1 : List Loc), H1.size = H.size → GP D (gset G a (.inl (D.2 t0, n, .inr (.inr (.inr (.inr (va_up f i.toNatClampNeg (some v)))))))) H1 → va_S A H0 H1 locs1 → W p l e R s m args below meth c H1 locs1 cells slots Q (F0 m (pc + 1) ls rest)) : W p l e R s m args below meth c H locs cells slots Q (F0 m pc ls (.ref v :: .int i :: .ref a :: rest)) := by
  have hlt : i.toNatClampNeg < n := Nat.not_le.mp fun q => hin (Or.inr q)
  have h0 : ¬ i < 0 := fun q => hin (Or.inl q)
  obtain ⟨r', hr', cellV, g1, g2, g3, -⟩ := hP v _ hv
  have hcls := (hK.1.1 ci _ (zCl_ok ci hci)).2
  obtain ⟨kA, comp, k1, k2, k3, -⟩ := (hK.1.2 t0 _ ht).2
  have hcomp : comp = D.1.1 ci := Option.some.inj (k3.symm.trans hcls.1)
  subst hcomp
  obtain ⟨kC, hkC, -⟩ := hcls.2
  refine W.aast hexec hb (hP a _ hg) (fun q h => by cases h) (fun h => by cases h) k1 k2 rfl hkC ⟨h0, by show _ < (arrV _ _ _).slots.size; rw [arrV_size]; exact hlt⟩ g1 (fun q h => by rw [g3] at h; cases h) (by rw [g2]; exact hkC) (by rw [g2]; exact va_assign hcls) rfl rfl hdg fun H1 e z oq => ?_
  refine kk H1 _ z (GP_set hP oq ?_) (hS.put z oq hAa)
  show H1[a]? = some (vp_cell _ _)
  rw [e, vp_cell_q, vp_cell_q, arrV_store]
  congr 2
  funext q
  by_cases hq : q = i.toNatClampNeg
  · subst hq
    simp [updV, va_up, va_rf]
  · simp [updV, va_up, hq]
end ZG
theorem GA_set {A : Nat → Prop} {G : GT} (h : ∀ a e, G a = some e → A a) {a : Nat} {e : va_E} (ha : A a) : ∀ b e', gset G a e b = some e' → A b := by
  intro b e' hb
  by_cases q : b = a
  · rw [q]; exact ha
  · rw [gset_n _ _ q] at hb; exact h b e' hb
section ZM
variable {x : CT} {cc : ByteArray} {own : String} {rm : Room} {ret : Option FieldType} {pc pc' : Nat} {L : List (Option Value)} {st : List Value} {cs ss : Nat} {w : Wd} {a ci k index : Nat}
theorem v_getV (hx : CX x cc own rm ret) (hl : zL w ci a = true) (hk : k < nF ci) (hfl : FL own index ci k) {v : Value} (hv : fv w ci a k = v) (d : decode cc pc = .ok (.getfield index, 3)) (hp : pc + 3 = pc') (kk : V x pc' L (v :: st) (Rp (xD x) w) cs ss) : V x pc L (.ref a :: st) (Rp (xD x) w) cs ss := by
  obtain ⟨p, l, e, R, s, m, args, below, meth, c, Q, D, A, nL⟩ := x
  obtain ⟨hx, hb, hml, hown, hts, hK, hA, hlk, hr, hR⟩ := hx
  subst hp
  intro G sz H locs ls a1 a2 a3 a4 a5 a6
  exact G_get hx hb hown hts hK a3 (a1.1 ci a hl).2 (a1.1 ci a hl).1 hk hfl (by rw [fl_at _ _ hk, hv]) d (kk G sz H locs ls a1 a2 a3 a4 a5 a6)
theorem v_getI (hx : CX x cc own rm ret) (hl : zL w ci a = true) (hk : k < nF ci) (hd : kd ci k = 0) (hfl : FL own index ci k) (d : decode cc pc = .ok (.getfield index, 3)) (hp : pc + 3 = pc') (kk : V x pc' L (.int (zI w ci a k 0) :: st) (Rp (xD x) w) cs ss) : V x pc L (.ref a :: st) (Rp (xD x) w) cs ss :=
  v_getV hx hl hk hfl (by unfold fv; rw [if_pos hd]; rfl) d hp kk
theorem v_getR (hx : CX x cc own rm ret) (hl : zL w ci a = true) (hk : k < nF ci) (hd : kd ci k = 1) (hfl : FL own index ci k) (d : decode cc pc = .ok (.getfield index, 3)) (hp : pc + 3 = pc') (kk : V x pc' L (va_rf (zR w ci a k 0) :: st) (Rp (xD x) w) cs ss) : V x pc L (.ref a :: st) (Rp (xD x) w) cs ss :=
  v_getV hx hl hk hfl (by unfold fv; rw [if_neg (by rw [hd]; decide), if_pos hd]; rfl) d hp kk
theorem v_getA (hx : CX x cc own rm ret) (hl : zL w ci a = true) (hk : k < nF ci) (hd : 2 ≤ kd ci k) (hfl : FL own index ci k) (d : decode cc pc = .ok (.getfield index, 3)) (hp : pc + 3 = pc') (kk : V x pc' L (.ref (zA w ci a k) :: st) (Rp (xD x) w) cs ss) : V x pc L (.ref a :: st) (Rp (xD x) w) cs ss :=
  v_getV hx hl hk hfl (by unfold fv; rw [if_neg (by omega), if_neg (by omega)]; rfl) d hp kk
theorem v_putI (hx : CX x cc own rm ret) (hl : zL w ci a = true) (hk : k < nF ci) (hd : kd ci k = 0) (hfin : (TT ci k).2.2.2 = false) (hfl : FL own index ci k) {v : Int32} (d : decode cc pc = .ok (.putfield index, 3)) (hp : pc + 3 = pc') (kk : V x pc' L st (Rp (xD x) (sI w ci a k 0 v)) cs ss) : V x pc L (.int v :: .ref a :: st) (Rp (xD x) w) cs ss := by
  obtain ⟨p, l, e, R, s, m, args, below, meth, c, Q, D, A, nL⟩ := x
  obtain ⟨hx, hb, hml, hown, hts, hK, hA, hlk, hr, hR⟩ := hx
  subst hp
  intro G sz H locs ls a1 a2 a3 a4 a5 a6
  have hc := (a1.1 ci a hl).1
  have hg := (a1.1 ci a hl).2
  have hty := zKd0 ci hc k hk hd
  refine G_put hx hb hown hts hK a3 a5 hg (a4 _ _ hg) hc hk hfl hfin (by rw [hty]; rfl) (by rw [hty]; rfl) (by rw [fl_len]; exact hk) d (fun H1 locs1 z g1 g2 => ?_)
  exact kk _ sz H1 locs1 ls (Rp_putI a1 hl hk hd v) (z.trans a2) g1 (GA_set a4 (a4 _ _ hg)) g2 a6
theorem cn_lo {D : DD} {w : Wd} {c a k t n : Nat} (hd : kd c k = t) (h5 : t < 5) (hn : al c k = n) : cn D w c a k = .inl (D.2 (cyN t), n, .inl (w.1 c a k)) := by
  subst hd; subst hn
  unfold cn
  rw [if_pos h5]
theorem cn_hi {D : DD} {w : Wd} {c a k t n : Nat} (hd : kd c k = t) (h5 : ¬ t < 5) (hn : al c k = n) : cn D w c a k = .inl (D.2 (cyN t), n, .inr (.inr (.inr (.inr (w.2.1 c a k))))) := by
  subst hd; subst hn
  unfold cn
  rw [if_neg h5]
variable {n : Nat} {i v : Int32}
theorem v_iald (hx : CX x cc own rm ret) (hl : zL w ci a = true) (hk : k < nF ci) (hd : kd ci k = 2) (hn : al ci k = n) (hin : ix i n = true) (d : decode cc pc = .ok (.iaload, 1)) (hp : pc + 1 = pc') (kk : V x pc' L (.int (zI w ci a k i.toNatClampNeg) :: st) (Rp (xD x) w) cs ss) : V x pc L (.int i :: .ref (zA w ci a k) :: st) (Rp (xD x) w) cs ss := by
  obtain ⟨p, l, e, R, s, m, args, below, meth, c, Q, D, A, nL⟩ := x
  obtain ⟨hx, hb, hml, hown, hts, hK, hA, hlk, hr, hR⟩ := hx
  subst hp
  intro G sz H locs ls a1 a2 a3 a4 a5 a6
  have hg := a1.2.1 ci a k hl hk (by omega)
  rw [cn_lo hd (by decide) hn] at hg
  exact va_iald hx hb hK.1 (GP_one a3 hg) 0 0 rfl rfl (ix_in hin) d (kk G sz H locs ls a1 a2 a3 a4 a5 a6)
theorem v_bald (hx : CX x cc own rm ret) (hl : zL w ci a = true) (hk : k < nF ci) (hd : kd ci k = 3) (hn : al ci k = n) (hin : ix i n = true) (d : decode cc pc = .ok (.baload, 1)) (hp : pc + 1 = pc') (kk : V x pc' L (.int (zI w ci a k i.toNatClampNeg) :: st) (Rp (xD x) w) cs ss) : V x pc L (.int i :: .ref (zA w ci a k) :: st) (Rp (xD x) w) cs ss := by
  obtain ⟨p, l, e, R, s, m, args, below, meth, c, Q, D, A, nL⟩ := x
  obtain ⟨hx, hb, hml, hown, hts, hK, hA, hlk, hr, hR⟩ := hx
  subst hp
  intro G sz H locs ls a1 a2 a3 a4 a5 a6
  have hg := a1.2.1 ci a k hl hk (by omega)
  rw [cn_lo hd (by decide) hn] at hg
  exact va_bald hx hb hK.1 (GP_one a3 hg) 0 1 rfl rfl (ix_in hin) d (kk G sz H locs ls a1 a2 a3 a4 a5 a6)
theorem v_zald (hx : CX x cc own rm ret) (hl : zL w ci a = true) (hk : k < nF ci) (hd : kd ci k = 4) (hn : al ci k = n) (hin : ix i n = true) (d : decode cc pc = .ok (.baload, 1)) (hp : pc + 1 = pc') (kk : V x pc' L (.int (zI w ci a k i.toNatClampNeg) :: st) (Rp (xD x) w) cs ss) : V x pc L (.int i :: .ref (zA w ci a k) :: st) (Rp (xD x) w) cs ss := by
  obtain ⟨p, l, e, R, s, m, args, below, meth, c, Q, D, A, nL⟩ := x
  obtain ⟨hx, hb, hml, hown, hts, hK, hA, hlk, hr, hR⟩ := hx
  subst hp
  intro G sz H locs ls a1 a2 a3 a4 a5 a6
  have hg := a1.2.1 ci a k hl hk (by omega)
  rw [cn_lo hd (by decide) hn] at hg
  exact va_zald hx hb hK.1 (GP_one a3 hg) 0 2 rfl rfl (ix_in hin) d (kk G sz H locs ls a1 a2 a3 a4 a5 a6)
theorem v_aald (hx : CX x cc own rm ret) (hl : zL w ci a = true) (hk : k < nF ci) (hd : kd ci k = 5 ∨ kd ci k = 6) (hn : al ci k = n) (hin : ix i n = true) (d : decode cc pc = .ok (.aaload, 1)) (hp : pc + 1 = pc') (kk : V x pc' L (va_rf (zR w ci a k i.toNatClampNeg) :: st) (Rp (xD x) w) cs ss) : V x pc L (.int i :: .ref (zA w ci a k) :: st) (Rp (xD x) w) cs ss := by
  obtain ⟨p, l, e, R, s, m, args, below, meth, c, Q, D, A, nL⟩ := x
  obtain ⟨hx, hb, hml, hown, hts, hK, hA, hlk, hr, hR⟩ := hx
  subst hp
  intro G sz H locs ls a1 a2 a3 a4 a5 a6
  have hg := a1.2.1 ci a k hl hk (by omega)
  rcases hd with hd | hd
  · rw [cn_hi hd (by decide) hn] at hg
    exact va_aldq hx hb hK.1 (GP_one a3 hg) 0 3 (C := "StuckHands$Row") rfl rfl (ix_in hin) d (kk G sz H locs ls a1 a2 a3 a4 a5 a6)
  · rw [cn_hi hd (by decide) hn] at hg
    exact va_aldq hx hb hK.1 (GP_one a3 hg) 0 4 (C := "StuckHands$Picture") rfl rfl (ix_in hin) d (kk G sz H locs ls a1 a2 a3 a4 a5 a6)
theorem v_alen (hx : CX x cc own rm ret) (hl : zL w ci a = true) (hk : k < nF ci) (hd : 2 ≤ kd ci k ∧ kd ci k ≤ 6) (hn : Int32.ofNat (al ci k) = v) (d : decode cc pc = .ok (.arraylength, 1)) (hp : pc + 1 = pc') (kk : V x pc' L (.int v :: st) (Rp (xD x) w) cs ss) : V x pc L (.ref (zA w ci a k) :: st) (Rp (xD x) w) cs ss := by
  obtain ⟨p, l, e, R, s, m, args, below, meth, c, Q, D, A, nL⟩ := x
  obtain ⟨hx, hb, hml, hown, hts, hK, hA, hlk, hr, hR⟩ := hx
  subst hp
  intro G sz H locs ls a1 a2 a3 a4 a5 a6
  have hg : G (zA w ci a k) = some (cn D w ci a k) := a1.2.1 ci a k hl hk hd.1
  have key : ∀ (t : Nat) (ty : FieldType) (q : vp_A), cn D w ci a k = .inl (D.2 t, q) → (TYA D)[t]? = some (D.2 t, ty) → q.1 = al ci k → W p l e R s m args below meth c H locs cs ss Q (F0 m pc ls (.ref (zA w ci a k) :: st)) := by
    intro t ty q h1 h2 h3
    rw [h1] at hg
    exact va_alen hx hb hK.1 (GP_one a3 hg) 0 t rfl h2 (by rw [h3]; exact hn) d (kk G sz H locs ls a1 a2 a3 a4 a5 a6)
  rcases (show kd ci k = 2 ∨ kd ci k = 3 ∨ kd ci k = 4 ∨ kd ci k = 5 ∨ kd ci k = 6 by omega) with h | h | h | h | h
  · exact key 0 _ _ (cn_lo h (by decide) rfl) rfl rfl
  · exact key 1 _ _ (cn_lo h (by decide) rfl) rfl rfl
  · exact key 2 _ _ (cn_lo h (by decide) rfl) rfl rfl
  · exact key 3 _ _ (cn_hi h (by decide) rfl) rfl rfl
  · exact key 4 _ _ (cn_hi h (by decide) rfl) rfl rfl
theorem v_iast (hx : CX x cc own rm ret) (hl : zL w ci a = true) (hk : k < nF ci) (hd : kd ci k = 2) (hn : al ci k = n) (hin : ix i n = true) (d : decode cc pc = .ok (.iastore, 1)) (hp : pc + 1 = pc') (kk : V x pc' L st (Rp (xD x) (sI w ci a k i.toNatClampNeg v)) cs ss) : V x pc L (.int v :: .int i :: .ref (zA w ci a k) :: st) (Rp (xD x) w) cs ss := by
  obtain ⟨p, l, e, R, s, m, args, below, meth, c, Q, D, A, nL⟩ := x
  obtain ⟨hx, hb, hml, hown, hts, hK, hA, hlk, hr, hR⟩ := hx
  subst hp
  intro G sz H locs ls a1 a2 a3 a4 a5 a6
  have hg := a1.2.1 ci a k hl hk (by omega)
  have hRp := Rp_putA a1 hl hk (by omega) (by omega) i.toNatClampNeg v
  rw [cn_lo hd (by decide) hn] at hg
  rw [hd, hn] at hRp
  refine G_iast hx hb hK a3 a5 hg (a4 _ _ hg) (ix_in hin) d (fun H1 locs1 z g1 g2 => ?_)
  exact kk _ sz H1 locs1 ls hRp (z.trans a2) g1 (GA_set a4 (a4 _ _ hg)) g2 a6
theorem v_bast (hx : CX x cc own rm ret) (hl : zL w ci a = true) (hk : k < nF ci) (hd : kd ci k = 3) (hn : al ci k = n) (hin : ix i n = true) (d : decode cc pc = .ok (.bastore, 1)) (hp : pc + 1 = pc') (kk : V x pc' L st (Rp (xD x) (sI w ci a k i.toNatClampNeg (vp_nar .byte v))) cs ss) : V x pc L (.int v :: .int i :: .ref (zA w ci a k) :: st) (Rp (xD x) w) cs ss := by
  obtain ⟨p, l, e, R, s, m, args, below, meth, c, Q, D, A, nL⟩ := x
  obtain ⟨hx, hb, hml, hown, hts, hK, hA, hlk, hr, hR⟩ := hx
  subst hp
  intro G sz H locs ls a1 a2 a3 a4 a5 a6
  have hg := a1.2.1 ci a k hl hk (by omega)
  have hRp := Rp_putA a1 hl hk (by omega) (by omega) i.toNatClampNeg (vp_nar .byte v)
  rw [cn_lo hd (by decide) hn] at hg
  rw [hd, hn] at hRp
  refine G_bast hx hb hK a3 a5 hg (a4 _ _ hg) (ix_in hin) d (fun H1 locs1 z g1 g2 => ?_)
  exact kk _ sz H1 locs1 ls hRp (z.trans a2) g1 (GA_set a4 (a4 _ _ hg)) g2 a6
theorem v_zast (hx : CX x cc own rm ret) (hl : zL w ci a = true) (hk : k < nF ci) (hd : kd ci k = 4) (hn : al ci k = n) (hin : ix i n = true) (d : decode cc pc = .ok (.bastore, 1)) (hp : pc + 1 = pc') (kk : V x pc' L st (Rp (xD x) (sI w ci a k i.toNatClampNeg (vp_nar .boolean v))) cs ss) : V x pc L (.int v :: .int i :: .ref (zA w ci a k) :: st) (Rp (xD x) w) cs ss := by
  obtain ⟨p, l, e, R, s, m, args, below, meth, c, Q, D, A, nL⟩ := x
  obtain ⟨hx, hb, hml, hown, hts, hK, hA, hlk, hr, hR⟩ := hx
  subst hp
  intro G sz H locs ls a1 a2 a3 a4 a5 a6
  have hg := a1.2.1 ci a k hl hk (by omega)
  have hRp := Rp_putA a1 hl hk (by omega) (by omega) i.toNatClampNeg (vp_nar .boolean v)
  rw [cn_lo hd (by decide) hn] at hg
  rw [hd, hn] at hRp
  refine G_zast hx hb hK a3 a5 hg (a4 _ _ hg) (ix_in hin) d (fun H1 locs1 z g1 g2 => ?_)
  exact kk _ sz H1 locs1 ls hRp (z.trans a2) g1 (GA_set a4 (a4 _ _ hg)) g2 a6
theorem v_aast (hx : CX x cc own rm ret) (hl : zL w ci a = true) (hk : k < nF ci) {t0 b : Nat} (hd : kd ci k = t0 + 2) (ht : (TYA (xD x))[t0]? = some ((xD x).2 t0, .object (RR (tg ci k)))) (hc0 : cyN (t0 + 2) = t0) (h5 : 5 ≤ t0 + 2) (hbl : zL w (tg ci k) b = true) (hn : al ci k = n) (hin : ix i n = true) (d : decode cc pc = .ok (.aastore, 1)) (hp : pc + 1 = pc') (kk : V x pc' L st (Rp (xD x) (sR w ci a k i.toNatClampNeg (some b))) cs ss) : V x pc L (.ref b :: .int i :: .ref (zA w ci a k) :: st) (Rp (xD x) w) cs ss := by
  obtain ⟨p, l, e, R, s, m, args, below, meth, c, Q, D, A, nL⟩ := x
  obtain ⟨hx, hb, hml, hown, hts, hK, hA, hlk, hr, hR⟩ := hx
  subst hp
  intro G sz H locs ls a1 a2 a3 a4 a5 a6
  have hg := a1.2.1 ci a k hl hk (by omega)
  have hRp := Rp_putR a1 hl hk (by omega) i.toNatClampNeg b hbl
  have hbg := a1.1 _ b hbl
  rw [cn_hi hd (by omega) hn, hc0] at hg
  rw [hd, hn, hc0] at hRp
  refine G_aast hx hb hK a3 a5 hg (a4 _ _ hg) hbg.1 ht hbg.2 (ix_in hin) d (fun H1 locs1 z g1 g2 => ?_)
  exact kk _ sz H1 locs1 ls hRp (z.trans a2) g1 (GA_set a4 (a4 _ _ hg)) g2 a6
end ZM
end
section
/-! contracts over typed worlds, calls, returns -/
def AA (G : GT) (sz : Nat) : Nat → Prop := fun q => (∃ e, G q = some e) ∨ sz ≤ q
def BB (D : DD) (G : GT) (sz : Nat) (u : Wd × GT) (t : State) : Prop := Rp D u.1 u.2 (zS u.1) ∧ GP D u.2 t.heap ∧ t.heap.size = zS u.1 ∧ ∀ a e, u.2 a = some e → AA G sz a
abbrev PP (D : DD) (G : GT) (sz : Nat) : State → Prop := fun U => U.heap.size = sz ∧ GP D G U.heap ∧ KB D U
abbrev QI (D : DD) (G : GT) (sz : Nat) (r : Int32) (w' : Wd) : Array Value → State → Outcome → State → Prop := va_Qi (S := Wd × GT) (fun r' u => r' = r ∧ u.1 = w') (BB D G sz) (AA G sz)
abbrev QV (D : DD) (G : GT) (sz : Nat) (w' : Wd) : Array Value → State → Outcome → State → Prop := va_Qv (S := Wd × GT) (fun u => u.1 = w') (BB D G sz) (AA G sz)
abbrev QQ (D : DD) (G : GT) (sz : Nat) (r : Option Nat) (w' : Wd) : Array Value → State → Outcome → State → Prop := va_Qq (S := Wd × GT) (fun r' u => r' = r ∧ u.1 = w') (BB D G sz) (AA G sz)
abbrev WS (y : MethodName) (cc : ByteArray) (maxL : Nat) (ret : Option FieldType) : List Cond := Cond.code y cc maxL ret :: TBG
abbrev MetI (l : Launch) (y : MethodName) (ws : List Cond) (rm : Room) (D : DD) (av : List Value) (G : GT) (sz : Nat) (r : Int32) (w' : Wd) : Prop := Met l y ws rm (va_Pc av (PP D G sz)) (QI D G sz r w') rm.cells rm.slots (AA G sz)
abbrev MetV (l : Launch) (y : MethodName) (ws : List Cond) (rm : Room) (D : DD) (av : List Value) (G : GT) (sz : Nat) (w' : Wd) : Prop := Met l y ws rm (va_Pc av (PP D G sz)) (QV D G sz w') rm.cells rm.slots (AA G sz)
abbrev MetQ (l : Launch) (y : MethodName) (ws : List Cond) (rm : Room) (D : DD) (av : List Value) (G : GT) (sz : Nat) (r : Option Nat) (w' : Wd) : Prop := Met l y ws rm (va_Pc av (PP D G sz)) (QQ D G sz r w') rm.cells rm.slots (AA G sz)
def RI (x : CT) (rm : Room) (r : Int32) (w' : Wd) : Prop := match x with
  | (_, _, _, _, s, _, args, below, _, _, Q, D, A, _) => ∃ G sz, Q = MQ below (QI D G sz r w') args s rm.cells rm.slots (AA G sz) ∧ A = AA G sz
def RV (x : CT) (rm : Room) (w' : Wd) : Prop := match x with
  | (_, _, _, _, s, _, args, below, _, _, Q, D, A, _) => ∃ G sz, Q = MQ below (QV D G sz w') args s rm.cells rm.slots (AA G sz) ∧ A = AA G sz
def RQ (x : CT) (rm : Room) (r : Option Nat) (w' : Wd) : Prop := match x with
  | (_, _, _, _, s, _, args, below, _, _, Q, D, A, _) => ∃ G sz, Q = MQ below (QQ D G sz r w') args s rm.cells rm.slots (AA G sz) ∧ A = AA G sz
theorem lg_sl_1 : ∀ (av : List Value), (∀ v ∈ av, v.category = 1) → lg_sl av = av.map Slot.val
  | [], _ => rfl
  | v :: vs, h => by
    have h1 : v.category = 1 := h v List.mem_cons_self
    have h2 := lg_sl_1 vs (fun u hu => h u (List.mem_cons_of_mem _ hu))
    unfold lg_sl at h2 ⊢
    rw [List.flatMap_cons, h2, if_neg (by omega)]
    rfl
theorem LH_entry {av : List Value} {n : Nat} (h : ∀ v ∈ av, v.category = 1) (hn : av.length ≤ n) : LH ((lg_sl av ++ List.replicate (n - (lg_sl av).length) Slot.unset).toArray) n (av.map some ++ List.replicate (n - av.length) none) := by
  have e := lg_sl_1 av h
  have hl : (lg_sl av).length = av.length := by rw [e, List.length_map]
  have h0 := lv_entry av (n := n) (by rw [hl]; exact hn)
  refine ⟨h0.1, h0.2.1, fun i v hi => ?_, by simp; omega⟩
  have hlt : i < av.length := by
    rcases Nat.lt_or_ge i av.length with q | q
    · exact q
    · rw [List.getElem?_append_right (by simpa using q)] at hi
      have := List.eq_of_mem_replicate (List.mem_of_getElem? hi)
      cases this
  rw [List.getElem?_append_left (by simpa using hlt), List.getElem?_map, List.getElem?_eq_getElem hlt] at hi
  have hv : av[i] = v := by simpa using hi
  refine ⟨?_, by rw [← hv]; exact h _ (List.getElem_mem hlt)⟩
  rw [e, List.getElem?_toArray, List.getElem?_append_left (by simpa using hlt), List.getElem?_map, List.getElem?_eq_getElem hlt, ← hv]
  rfl
section ZO
variable {l : Launch} {y : MethodName} {cc : ByteArray} {maxL : Nat} {own : String} {rm : Room} {D : DD} {av : List Value} {G : GT} {sz : Nat} {r : Int32} {q : Option Nat} {w' : Wd} {P : GT → Nat → Prop} {ret : Option FieldType}
theorem MetI_ofV (hP : P G sz) (hy : plainName y.cls = true) (ho : y.cls = own) (hav : ∀ v ∈ av, v.category = 1) (hlen : av.length ≤ maxL)
    (body : ∀ x : CT, CX x cc own rm ret → RI x rm r w' → xD x = D → xl x = l → V x 0 (av.map some ++ List.replicate (maxL - av.length) none) [] P 0 0) : MetI l y (WS y cc maxL ret) rm D av G sz r w' := by
  refine Met.ofW (cc := cc) (maxL := maxL) (ret := ret) hy rfl ?_
  intro p e s m args below meth c s₁ B hml hv
  obtain ⟨rfl, hsz, hGP, hK⟩ := hv
  have hts := atoms_spec (ws := WS y cc maxL ret) B.pre
  have hown : s.vm.findClass own = some m.cls := by rw [← ho]; exact findClass_of_methodNamed B.named
  have V0 := body (p, l, e, (headSpec (WS y cc maxL ret) rm).room, s, m, av.toArray, below, meth, c, MQ below (QI D G sz r w') av.toArray s rm.cells rm.slots (AA G sz), D, AA G sz, maxL) ⟨B.exec, B.bytes, hml, hown, fun w hw => hts w (List.mem_cons_of_mem _ hw), hK, fun q hq => Or.inr (by omega), B.notSynchronized, B.returns, rfl⟩ ⟨G, sz, rfl, rfl⟩ rfl rfl
  rw [lg_entry_eq]
  exact V0 G sz s.heap [] _ hP hsz hGP (fun a e h => Or.inl ⟨e, h⟩) va_S.rf (LH_entry hav hlen)
theorem MetV_ofV (hP : P G sz) (hy : plainName y.cls = true) (ho : y.cls = own) (hav : ∀ v ∈ av, v.category = 1) (hlen : av.length ≤ maxL)
    (body : ∀ x : CT, CX x cc own rm ret → RV x rm w' → xD x = D → xl x = l → V x 0 (av.map some ++ List.replicate (maxL - av.length) none) [] P 0 0) : MetV l y (WS y cc maxL ret) rm D av G sz w' := by
  refine Met.ofW (cc := cc) (maxL := maxL) (ret := ret) hy rfl ?_
  intro p e s m args below meth c s₁ B hml hv
  obtain ⟨rfl, hsz, hGP, hK⟩ := hv
  have hts := atoms_spec (ws := WS y cc maxL ret) B.pre
  have hown : s.vm.findClass own = some m.cls := by rw [← ho]; exact findClass_of_methodNamed B.named
  have V0 := body (p, l, e, (headSpec (WS y cc maxL ret) rm).room, s, m, av.toArray, below, meth, c, MQ below (QV D G sz w') av.toArray s rm.cells rm.slots (AA G sz), D, AA G sz, maxL) ⟨B.exec, B.bytes, hml, hown, fun w hw => hts w (List.mem_cons_of_mem _ hw), hK, fun q hq => Or.inr (by omega), B.notSynchronized, B.returns, rfl⟩ ⟨G, sz, rfl, rfl⟩ rfl rfl
  rw [lg_entry_eq]
  exact V0 G sz s.heap [] _ hP hsz hGP (fun a e h => Or.inl ⟨e, h⟩) va_S.rf (LH_entry hav hlen)
theorem MetQ_ofV (hP : P G sz) (hy : plainName y.cls = true) (ho : y.cls = own) (hav : ∀ v ∈ av, v.category = 1) (hlen : av.length ≤ maxL)
    (body : ∀ x : CT, CX x cc own rm ret → RQ x rm q w' → xD x = D → xl x = l → V x 0 (av.map some ++ List.replicate (maxL - av.length) none) [] P 0 0) : MetQ l y (WS y cc maxL ret) rm D av G sz q w' := by
  refine Met.ofW (cc := cc) (maxL := maxL) (ret := ret) hy rfl ?_
  intro p e s m args below meth c s₁ B hml hv
  obtain ⟨rfl, hsz, hGP, hK⟩ := hv
  have hts := atoms_spec (ws := WS y cc maxL ret) B.pre
  have hown : s.vm.findClass own = some m.cls := by rw [← ho]; exact findClass_of_methodNamed B.named
  have V0 := body (p, l, e, (headSpec (WS y cc maxL ret) rm).room, s, m, av.toArray, below, meth, c, MQ below (QQ D G sz q w') av.toArray s rm.cells rm.slots (AA G sz), D, AA G sz, maxL) ⟨B.exec, B.bytes, hml, hown, fun w hw => hts w (List.mem_cons_of_mem _ hw), hK, fun q hq => Or.inr (by omega), B.notSynchronized, B.returns, rfl⟩ ⟨G, sz, rfl, rfl⟩ rfl rfl
  rw [lg_entry_eq]
  exact V0 G sz s.heap [] _ hP hsz hGP (fun a e h => Or.inl ⟨e, h⟩) va_S.rf (LH_entry hav hlen)
end ZO
section ZR
variable {x : CT} {cc : ByteArray} {own : String} {rm : Room} {ret : Option FieldType} {pc pc' : Nat} {L : List (Option Value)} {cs ss : Nat} {w w' : Wd} {r v : Int32} {q u : Option Nat}
theorem v_iret (hx : CX x cc own rm (some .int)) (hq : RI x rm r w') (h1 : cs ≤ rm.cells) (h2 : ss ≤ rm.slots) (d : decode cc pc = .ok (.ireturn, 1)) (he : some (v, w) = some (r, w')) : V x pc L [.int v] (Rp (xD x) w) cs ss := by
  obtain ⟨p, l, e, R, s, m, args, below, meth, c, Q, D, A, nL⟩ := x
  obtain ⟨hx, hb, hml, hown, hts, hK, hA, hlk, hr, hR⟩ := hx
  obtain ⟨G0, sz0, rfl, rfl⟩ := hq
  cases he
  intro G sz H locs ls a1 a2 a3 a4 a5 a6
  have e5 : sz = zS w := a1.2.2.2.2
  refine W.widen h1 h2 ?_
  exact W.iret hx hb hr (fun t ht hW => ⟨⟨_, (w, G), rfl, ⟨rfl, rfl⟩, by rw [← e5]; exact a1, by rw [ht]; exact a3, by rw [ht, a2, e5], a4⟩, a5.F ht⟩) a5.2.2 d
theorem v_zret (hx : CX x cc own rm (some .boolean)) (hq : RI x rm r w') (h1 : cs ≤ rm.cells) (h2 : ss ≤ rm.slots) (d : decode cc pc = .ok (.ireturn, 1)) (hv : v = 0 ∨ v = 1) (he : some (v, w) = some (r, w')) : V x pc L [.int v] (Rp (xD x) w) cs ss := by
  obtain ⟨p, l, e, R, s, m, args, below, meth, c, Q, D, A, nL⟩ := x
  obtain ⟨hx, hb, hml, hown, hts, hK, hA, hlk, hr, hR⟩ := hx
  obtain ⟨G0, sz0, rfl, rfl⟩ := hq
  cases he
  intro G sz H locs ls a1 a2 a3 a4 a5 a6
  have e5 : sz = zS w := a1.2.2.2.2
  refine W.widen h1 h2 ?_
  exact W.zret hx hb hr (by rcases hv with rfl | rfl <;> rfl) (fun t ht hW => ⟨⟨_, (w, G), rfl, ⟨rfl, rfl⟩, by rw [← e5]; exact a1, by rw [ht]; exact a3, by rw [ht, a2, e5], a4⟩, a5.F ht⟩) a5.2.2 d
theorem v_vret (hx : CX x cc own rm none) (hq : RV x rm w') (h1 : cs ≤ rm.cells) (h2 : ss ≤ rm.slots) (d : decode cc pc = .ok (.return_, 1)) (he : some w = some w') : V x pc L [] (Rp (xD x) w) cs ss := by
  obtain ⟨p, l, e, R, s, m, args, below, meth, c, Q, D, A, nL⟩ := x
  obtain ⟨hx, hb, hml, hown, hts, hK, hA, hlk, hr, hR⟩ := hx
  obtain ⟨G0, sz0, rfl, rfl⟩ := hq
  cases he
  intro G sz H locs ls a1 a2 a3 a4 a5 a6
  have e5 : sz = zS w := a1.2.2.2.2
  refine W.widen h1 h2 ?_
  exact W.vret hx hb hr (fun t ht hW => ⟨⟨(w, G), rfl, rfl, by rw [← e5]; exact a1, by rw [ht]; exact a3, by rw [ht, a2, e5], a4⟩, a5.F ht⟩) a5.2.2 d
theorem v_aret {C : String} (hx : CX x cc own rm (some (.object C))) (hq : RQ x rm q w') (h1 : cs ≤ rm.cells) (h2 : ss ≤ rm.slots) (d : decode cc pc = .ok (.areturn, 1)) (he : some (u, w) = some (q, w')) : V x pc L [va_rf u] (Rp (xD x) w) cs ss := by
  obtain ⟨p, l, e, R, s, m, args, below, meth, c, Q, D, A, nL⟩ := x
  obtain ⟨hx, hb, hml, hown, hts, hK, hA, hlk, hr, hR⟩ := hx
  obtain ⟨G0, sz0, rfl, rfl⟩ := hq
  cases he
  intro G sz H locs ls a1 a2 a3 a4 a5 a6
  have e5 : sz = zS w := a1.2.2.2.2
  refine W.widen h1 h2 ?_
  exact W.aret hx hb hr (Or.inl ⟨C, rfl⟩) (va_rf_or _) (fun t ht hW => ⟨⟨_, (w, G), rfl, ⟨rfl, rfl⟩, by rw [← e5]; exact a1, by rw [ht]; exact a3, by rw [ht, a2, e5], a4⟩, a5.F ht⟩) a5.2.2 d
end ZR
/-! calls -/
def MY (y : MethodName) (C : String) (cc : ByteArray) (maxL : Nat) (ret : Option FieldType) (n : Nat) : Prop := Cond.instanceMethod y ∈ TBG ∧ Cond.selects C y y ∈ TBG ∧ Cond.initialized C ∈ TBG ∧ Cond.code y cc maxL ret ∈ TBG ∧ y.cls = C ∧ y.cls ≠ "java/lang/invoke/MethodHandle" ∧ y.cls ≠ "java/lang/invoke/VarHandle" ∧ (parseMethodDescriptor y.desc).map (fun d => d.parameters.length) = some n
def MS (y : MethodName) (cc : ByteArray) (maxL : Nat) (ret : Option FieldType) (n : Nat) : Prop := Cond.static y ∈ TBG ∧ Cond.initialized y.cls ∈ TBG ∧ Cond.code y cc maxL ret ∈ TBG ∧ y.cls ≠ "java/lang/invoke/MethodHandle" ∧ y.cls ≠ "java/lang/invoke/VarHandle" ∧ (parseMethodDescriptor y.desc).map (fun d => d.parameters.length) = some n
def ML (own : String) (index : Nat) (y : MethodName) : Prop := Cond.methodLink own index y ∈ TBG ∨ ∃ host, Cond.methodLinkNest own index y host ∈ TBN
theorem good_TB {ws : List Cond} (h : ∀ w ∈ ws, w ∈ TBG) : GoodIn TBG ws := fun w hw => ⟨h w hw, good_of_word (List.mem_filter.mp (h w hw)).2⟩
theorem WS_in {y : MethodName} {cc : ByteArray} {maxL : Nat} {ret : Option FieldType} (h : Cond.code y cc maxL ret ∈ TBG) : ∀ w ∈ WS y cc maxL ret, w ∈ TBG := fun w hw => by
  rcases List.mem_cons.mp hw with rfl | q
  · exact h
  · exact q
theorem PP_blind {D : DD} {av : List Value} {G : GT} {sz : Nat} : FrameBlind (va_Pc av (PP D G sz)) := fun a U g mk h => ⟨h.1, h.2.1, h.2.2.1, KB.same (u := U) rfl h.2.2.2⟩
section ZC
variable {p : Program} {l : Launch} {e : Env} {R : Room} {s : State} {m : MethodId} {args : Array Value} {below : List Frame} {meth : Method} {c : Code} {H : Heap} {locs : List Loc} {cells slots : Nat}
variable {y : MethodName} {bytes cc : ByteArray} {maxL nL n index : Nat} {ret : Option FieldType} {rmy : Room} {Qc : Array Value → State → Outcome → State → Prop} {own : String} {As rest : List Value} {D : DD} {G : GT} {sz pc : Nat} {ls : Array Slot} {st : List Value}
/-- a call of an object's method -/
theorem runV_any {C : String} {b ci : Nat} {fs : List Value} (hx : p.tables.exec = Jvm.exec) (hb : c.code = cc) (hml : c.maxLocals = nL) (hown : s.vm.findClass own = some m.cls) (hts : ∀ w ∈ TBG, w.before args s = true) (hK : KB D s) (a2 : H.size = sz) (a3 : GP D G H) (hls : ls.size = nL)
    (hM : Met l y (WS y bytes maxL ret) rmy (va_Pc (.ref b :: As) (PP D G sz)) Qc rmy.cells rmy.slots (AA G sz)) (hci : ci < 7) (hg : G b = some (.inr (ci, fs))) (hC : RR ci = C) (hy : MY y C bytes maxL ret n) (hln : ML own index y) (hroom : rmy.frames + 1 ≤ R.frames ∧ 8 + (maxL + 11) + rmy.locals ≤ R.locals) (hcs : cells + rmy.cells ≤ R.cells ∧ slots + rmy.slots ≤ R.slots) (hn : As.length = n) (hst : st = As.reverse ++ .ref b :: rest) (hcat : (rest.map fun v => v.category).sum ≤ 8) (d : decode cc pc = .ok (.invokevirtual index, 3)) :
    va_Run p l e R s m args below meth c H locs cells slots rmy.cells rmy.slots (F0 m pc ls st) rest (Qc (Value.ref b :: As).toArray) (AA G sz) := by
  obtain ⟨y1, y2, y3, y4, y5, y6, y7, y8⟩ := hy
  have hp : PreV s H C b (va_Pc (.ref b :: As) (PP D G sz)) As := ⟨PP_blind, by rw [← hC]; exact va_recv (q := (RR ci, TT ci, nF ci)) hK.1 (GP_one a3 hg) (zCl_ok ci hci) (q0 := 0) rfl, fun U hU hW => ⟨rfl, by rw [hU, a2], by rw [hU]; exact a3, hK.warm hW⟩⟩
  rcases hln with h | ⟨host, h⟩
  · refine va_runV ⟨hx, hb, hml, hown, hts⟩ hM (cwV n hts (good_TB ?_) rfl rfl rfl ⟨y5, y6, y7, y8⟩ hroom) hp rfl hn hls hst (lv_room hcat) d hcs
    intro w hw
    rcases List.mem_append.mp hw with q | q
    · simp only [List.mem_cons, List.not_mem_nil, or_false] at q
      rcases q with rfl | rfl | rfl | rfl <;> assumption
    · exact WS_in y4 w q
  · exact va_runVN ⟨hx, hb, hml, hown, hts⟩ hM ⟨va_cnB n hts (good_TB (WS_in y4)) rfl rfl rfl (hK.2.1 _ h) (by rw [y5]; exact hts _ y3) ⟨y6, y7, y8⟩ hroom, hts _ y1, hts _ y2⟩ hp rfl hn hls hst (lv_room hcat) d hcs
theorem runS_any (hx : p.tables.exec = Jvm.exec) (hb : c.code = cc) (hml : c.maxLocals = nL) (hown : s.vm.findClass own = some m.cls) (hts : ∀ w ∈ TBG, w.before args s = true) (hK : KB D s) (a2 : H.size = sz) (a3 : GP D G H) (hls : ls.size = nL)
    (hM : Met l y (WS y bytes maxL ret) rmy (va_Pc As (PP D G sz)) Qc rmy.cells rmy.slots (AA G sz)) (hy : MS y bytes maxL ret n) (hln : ML own index y) (hroom : rmy.frames + 1 ≤ R.frames ∧ 8 + (maxL + 11) + rmy.locals ≤ R.locals) (hcs : cells + rmy.cells ≤ R.cells ∧ slots + rmy.slots ≤ R.slots) (hn : As.length = n) (hst : st = As.reverse ++ rest) (hcat : (rest.map fun v => v.category).sum ≤ 8) (d : decode cc pc = .ok (.invokestatic index, 3)) :
    va_Run p l e R s m args below meth c H locs cells slots rmy.cells rmy.slots (F0 m pc ls st) rest (Qc As.toArray) (AA G sz) := by
  obtain ⟨y1, y2, y4, y6, y7, y8⟩ := hy
  have hp : PreS s H (va_Pc As (PP D G sz)) As := ⟨PP_blind, fun U hU hW => ⟨rfl, by rw [hU, a2], by rw [hU]; exact a3, hK.warm hW⟩⟩
  rcases hln with h | ⟨host, h⟩
  · exact va_runS ⟨hx, hb, hml, hown, hts⟩ hM ⟨callB_of n hts (good_TB (WS_in y4)) rfl rfl rfl (hts _ y2) (hts _ h) ⟨y6, y7, y8⟩ hroom, hts _ y1⟩ hp rfl hn hls hst (lv_room hcat) d hcs
  · exact va_runSN ⟨hx, hb, hml, hown, hts⟩ hM ⟨va_cnB n hts (good_TB (WS_in y4)) rfl rfl rfl (hK.2.1 _ h) (hts _ y2) ⟨y6, y7, y8⟩ hroom, hts _ y1, trivial⟩ hp rfl hn hls hst (lv_room hcat) d hcs
theorem runI_any {b : Nat} (hx : p.tables.exec = Jvm.exec) (hb : c.code = cc) (hml : c.maxLocals = nL) (hown : s.vm.findClass own = some m.cls) (hts : ∀ w ∈ TBG, w.before args s = true) (hK : KB D s) (a2 : H.size = sz) (a3 : GP D G H) (hls : ls.size = nL)
    (hM : Met l y (WS y bytes maxL none) rmy (va_Pc (.ref b :: As) (PP D G sz)) Qc rmy.cells rmy.slots (AA G sz)) (hy : Cond.instanceMethod y ∈ TBG ∧ Cond.initialized y.cls ∈ TBG ∧ Cond.code y bytes maxL none ∈ TBG ∧ y.name = "<init>" ∧ y.cls ≠ "java/lang/invoke/MethodHandle" ∧ y.cls ≠ "java/lang/invoke/VarHandle" ∧ (parseMethodDescriptor y.desc).map (fun d => d.parameters.length) = some n) (hln : ML own index y) (hroom : rmy.frames + 1 ≤ R.frames ∧ 8 + (maxL + 11) + rmy.locals ≤ R.locals) (hcs : cells + rmy.cells ≤ R.cells ∧ slots + rmy.slots ≤ R.slots) (hn : As.length = n) (hst : st = As.reverse ++ .ref b :: rest) (hcat : (rest.map fun v => v.category).sum ≤ 8) (d : decode cc pc = .ok (.invokespecial index, 3)) :
    va_Run p l e R s m args below meth c H locs cells slots rmy.cells rmy.slots (F0 m pc ls st) rest (Qc (Value.ref b :: As).toArray) (AA G sz) := by
  obtain ⟨y1, y2, y4, y5, y6, y7, y8⟩ := hy
  have hp : PreS s H (va_Pc (.ref b :: As) (PP D G sz)) (.ref b :: As) := ⟨PP_blind, fun U hU hW => ⟨rfl, by rw [hU, a2], by rw [hU]; exact a3, hK.warm hW⟩⟩
  rcases hln with h | ⟨host, h⟩
  · exact va_runI ⟨hx, hb, hml, hown, hts⟩ hM ⟨callB_of n hts (good_TB (WS_in y4)) rfl rfl rfl (hts _ y2) (hts _ h) ⟨y6, y7, y8⟩ hroom, y5, hts _ y1⟩ hp rfl hn hls hst (lv_room hcat) d hcs
  · exact va_runIN ⟨hx, hb, hml, hown, hts⟩ hM ⟨va_cnB n hts (good_TB (WS_in y4)) rfl rfl rfl (hK.2.1 _ h) (hts _ y2) ⟨y6, y7, y8⟩ hroom, y5, hts _ y1⟩ hp rfl hn hls hst (lv_room hcat) d hcs
end ZC
section ZK
variable {x : CT} {cc bytes : ByteArray} {own : String} {rm rmy : Room} {ret rety : Option FieldType} {pc pc' maxL n index ci b : Nat} {L : List (Option Value)} {st rest As : List Value} {cs ss : Nat} {w w' : Wd} {r : Int32} {q : Option Nat} {y : MethodName} {C : String} {P : GT → Nat → Prop}
theorem AA_to {A : Nat → Prop} {G : GT} {sz : Nat} {s : State} {H : Heap} {locs : List Loc} (a2 : H.size = sz) (a4 : ∀ a e, G a = some e → A a) (a5 : va_S A s.heap H locs) (hA : ∀ q, s.heap.size ≤ q → A q) : ∀ q, AA G sz q → A q := by
  intro q h
  rcases h with ⟨e, h⟩ | h
  · exact a4 q e h
  · exact hA q (by have := a5.1; omega)
theorem v_callVi (hx : CX x cc own rm ret) (hl : zL w ci b = true) (hM : ∀ G sz, Rp (xD x) w G sz → MetI (xl x) y (WS y bytes maxL rety) rmy (xD x) (.ref b :: As) G sz r w') (hC : RR ci = C) (hy : MY y C bytes maxL rety n) (hln : ML own index y) (hroom : rmy.frames + 1 ≤ rm.frames ∧ 8 + (maxL + 11) + rmy.locals ≤ rm.locals) (hcs : cs + rmy.cells ≤ rm.cells ∧ ss + rmy.slots ≤ rm.slots) (hn : As.length = n) (hst : st = As.reverse ++ .ref b :: rest) (hcat : (rest.map fun v => v.category).sum ≤ 8) (d : decode cc pc = .ok (.invokevirtual index, 3)) (hp : pc + 3 = pc')
    (k : V x pc' L (.int r :: rest) (Rp (xD x) w') (cs + rmy.cells) (ss + rmy.slots)) : V x pc L st (Rp (xD x) w) cs ss := by
  obtain ⟨p, l, e, R, s, m, args, below, meth, c, Q, D, A, nL⟩ := x
  obtain ⟨hx, hb, hml, hown, hts, hK, hA, hlk, hr, rfl⟩ := hx
  subst hp
  intro G sz H locs ls a1 a2 a3 a4 a5 a6
  have hAA := AA_to a2 a4 a5 hA
  refine va_calli (runV_any hx hb hml hown hts hK a2 a3 a6.1 (hM G sz a1) (a1.1 ci b hl).1 (a1.1 ci b hl).2 hC hy hln hroom hcs hn hst hcat d) a5 (fun q _ h => hAA q h) hAA (fun r' u t H1 locs1 ht hvm hw hB hz1 hk1 hS => ?_)
  obtain ⟨w1, G1⟩ := u
  obtain ⟨rfl, rfl⟩ := hw
  obtain ⟨b1, b2, b3, b4⟩ := hB
  subst ht
  exact k G1 (zS w1) t.heap locs1 ls b1 b3 b2 (fun a e h => hAA a (b4 a e h)) hS a6
theorem v_callVv (hx : CX x cc own rm ret) (hl : zL w ci b = true) (hM : ∀ G sz, Rp (xD x) w G sz → MetV (xl x) y (WS y bytes maxL rety) rmy (xD x) (.ref b :: As) G sz w') (hC : RR ci = C) (hy : MY y C bytes maxL rety n) (hln : ML own index y) (hroom : rmy.frames + 1 ≤ rm.frames ∧ 8 + (maxL + 11) + rmy.locals ≤ rm.locals) (hcs : cs + rmy.cells ≤ rm.cells ∧ ss + rmy.slots ≤ rm.slots) (hn : As.length = n) (hst : st = As.reverse ++ .ref b :: rest) (hcat : (rest.map fun v => v.category).sum ≤ 8) (d : decode cc pc = .ok (.invokevirtual index, 3)) (hp : pc + 3 = pc')
    (k : V x pc' L rest (Rp (xD x) w') (cs + rmy.cells) (ss + rmy.slots)) : V x pc L st (Rp (xD x) w) cs ss := by
  obtain ⟨p, l, e, R, s, m, args, below, meth, c, Q, D, A, nL⟩ := x
  obtain ⟨hx, hb, hml, hown, hts, hK, hA, hlk, hr, rfl⟩ := hx
  subst hp
  intro G sz H locs ls a1 a2 a3 a4 a5 a6
  have hAA := AA_to a2 a4 a5 hA
  refine va_callv (runV_any hx hb hml hown hts hK a2 a3 a6.1 (hM G sz a1) (a1.1 ci b hl).1 (a1.1 ci b hl).2 hC hy hln hroom hcs hn hst hcat d) a5 (fun q _ h => hAA q h) hAA (fun u t H1 locs1 ht hvm hw hB hz1 hk1 hS => ?_)
  obtain ⟨w1, G1⟩ := u
  obtain rfl := hw
  obtain ⟨b1, b2, b3, b4⟩ := hB
  subst ht
  exact k G1 (zS w1) t.heap locs1 ls b1 b3 b2 (fun a e h => hAA a (b4 a e h)) hS a6
theorem v_callVq (hx : CX x cc own rm ret) (hl : zL w ci b = true) (hM : ∀ G sz, Rp (xD x) w G sz → MetQ (xl x) y (WS y bytes maxL rety) rmy (xD x) (.ref b :: As) G sz q w') (hC : RR ci = C) (hy : MY y C bytes maxL rety n) (hln : ML own index y) (hroom : rmy.frames + 1 ≤ rm.frames ∧ 8 + (maxL + 11) + rmy.locals ≤ rm.locals) (hcs : cs + rmy.cells ≤ rm.cells ∧ ss + rmy.slots ≤ rm.slots) (hn : As.length = n) (hst : st = As.reverse ++ .ref b :: rest) (hcat : (rest.map fun v => v.category).sum ≤ 8) (d : decode cc pc = .ok (.invokevirtual index, 3)) (hp : pc + 3 = pc')
    (k : V x pc' L (va_rf q :: rest) (Rp (xD x) w') (cs + rmy.cells) (ss + rmy.slots)) : V x pc L st (Rp (xD x) w) cs ss := by
  obtain ⟨p, l, e, R, s, m, args, below, meth, c, Q, D, A, nL⟩ := x
  obtain ⟨hx, hb, hml, hown, hts, hK, hA, hlk, hr, rfl⟩ := hx
  subst hp
  intro G sz H locs ls a1 a2 a3 a4 a5 a6
  have hAA := AA_to a2 a4 a5 hA
  refine va_callq (runV_any hx hb hml hown hts hK a2 a3 a6.1 (hM G sz a1) (a1.1 ci b hl).1 (a1.1 ci b hl).2 hC hy hln hroom hcs hn hst hcat d) a5 (fun q _ h => hAA q h) hAA (fun r' u t H1 locs1 ht hvm hw hB hz1 hk1 hS => ?_)
  obtain ⟨w1, G1⟩ := u
  obtain ⟨rfl, rfl⟩ := hw
  obtain ⟨b1, b2, b3, b4⟩ := hB
  subst ht
  exact k G1 (zS w1) t.heap locs1 ls b1 b3 b2 (fun a e h => hAA a (b4 a e h)) hS a6
theorem v_callSi (hx : CX x cc own rm ret) (hM : ∀ G sz, Rp (xD x) w G sz → MetI (xl x) y (WS y bytes maxL rety) rmy (xD x) As G sz r w') (hy : MS y bytes maxL rety n) (hln : ML own index y) (hroom : rmy.frames + 1 ≤ rm.frames ∧ 8 + (maxL + 11) + rmy.locals ≤ rm.locals) (hcs : cs + rmy.cells ≤ rm.cells ∧ ss + rmy.slots ≤ rm.slots) (hn : As.length = n) (hst : st = As.reverse ++ rest) (hcat : (rest.map fun v => v.category).sum ≤ 8) (d : decode cc pc = .ok (.invokestatic index, 3)) (hp : pc + 3 = pc')
    (k : V x pc' L (.int r :: rest) (Rp (xD x) w') (cs + rmy.cells) (ss + rmy.slots)) : V x pc L st (Rp (xD x) w) cs ss := by
  obtain ⟨p, l, e, R, s, m, args, below, meth, c, Q, D, A, nL⟩ := x
  obtain ⟨hx, hb, hml, hown, hts, hK, hA, hlk, hr, rfl⟩ := hx
  subst hp
  intro G sz H locs ls a1 a2 a3 a4 a5 a6
  have hAA := AA_to a2 a4 a5 hA
  refine va_calli (runS_any hx hb hml hown hts hK a2 a3 a6.1 (hM G sz a1) hy hln hroom hcs hn hst hcat d) a5 (fun q _ h => hAA q h) hAA (fun r' u t H1 locs1 ht hvm hw hB hz1 hk1 hS => ?_)
  obtain ⟨w1, G1⟩ := u
  obtain ⟨rfl, rfl⟩ := hw
  obtain ⟨b1, b2, b3, b4⟩ := hB
  subst ht
  exact k G1 (zS w1) t.heap locs1 ls b1 b3 b2 (fun a e h => hAA a (b4 a e h)) hS a6
theorem v_callIv (hx : CX x cc own rm ret) (hM : ∀ G sz, P G sz → MetV (xl x) y (WS y bytes maxL none) rmy (xD x) (.ref b :: As) G sz w') (hy : Cond.instanceMethod y ∈ TBG ∧ Cond.initialized y.cls ∈ TBG ∧ Cond.code y bytes maxL none ∈ TBG ∧ y.name = "<init>" ∧ y.cls ≠ "java/lang/invoke/MethodHandle" ∧ y.cls ≠ "java/lang/invoke/VarHandle" ∧ (parseMethodDescriptor y.desc).map (fun d => d.parameters.length) = some n) (hln : ML own index y) (hroom : rmy.frames + 1 ≤ rm.frames ∧ 8 + (maxL + 11) + rmy.locals ≤ rm.locals) (hcs : cs + rmy.cells ≤ rm.cells ∧ ss + rmy.slots ≤ rm.slots) (hn : As.length = n) (hst : st = As.reverse ++ .ref b :: rest) (hcat : (rest.map fun v => v.category).sum ≤ 8) (d : decode cc pc = .ok (.invokespecial index, 3)) (hp : pc + 3 = pc')
    (k : V x pc' L rest (Rp (xD x) w') (cs + rmy.cells) (ss + rmy.slots)) : V x pc L st P cs ss := by
  obtain ⟨p, l, e, R, s, m, args, below, meth, c, Q, D, A, nL⟩ := x
  obtain ⟨hx, hb, hml, hown, hts, hK, hA, hlk, hr, rfl⟩ := hx
  subst hp
  intro G sz H locs ls a1 a2 a3 a4 a5 a6
  have hAA := AA_to a2 a4 a5 hA
  refine va_callv (runI_any hx hb hml hown hts hK a2 a3 a6.1 (hM G sz a1) hy hln hroom hcs hn hst hcat d) a5 (fun q _ h => hAA q h) hAA (fun u t H1 locs1 ht hvm hw hB hz1 hk1 hS => ?_)
  obtain ⟨w1, G1⟩ := u
  obtain rfl := hw
  obtain ⟨b1, b2, b3, b4⟩ := hB
  subst ht
  exact k G1 (zS w1) t.heap locs1 ls b1 b3 b2 (fun a e h => hAA a (b4 a e h)) hS a6
end ZK
end
