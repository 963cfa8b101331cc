def rmX4_init : Room := { frames := 1, cells := 1, slots := 300, locals := 20 }
def rmX0_init : Room := { frames := 1, cells := 3, slots := 48, locals := 20 }
def rmX5_init : Room := { frames := 2, cells := 7, slots := 364, locals := 40 }
def rmX6_init : Room := { frames := 1, cells := 16, slots := 4025, locals := 20 }
def rmX4_append : Room := { frames := 0, cells := 0, slots := 0, locals := 0 }
def rmX5_feed : Room := { frames := 1, cells := 0, slots := 0, locals := 22 }
def rmX6_push : Room := { frames := 0, cells := 0, slots := 0, locals := 0 }
def rmX6_feed : Room := { frames := 1, cells := 0, slots := 0, locals := 22 }
def rmJ9_min_7cf53 : Room := { frames := 0, cells := 0, slots := 0, locals := 0 }
def rmX4_openText : Room := { frames := 1, cells := 0, slots := 0, locals := 21 }
def rmX4_next : Room := { frames := 0, cells := 0, slots := 0, locals := 0 }
def rmX4_take : Room := { frames := 1, cells := 0, slots := 0, locals := 20 }
def rmX5_isDigit : Room := { frames := 0, cells := 0, slots := 0, locals := 0 }
def rmX4_tearAt : Room := { frames := 0, cells := 0, slots := 0, locals := 0 }
def rmX4_takeNumber : Room := { frames := 1, cells := 0, slots := 0, locals := 21 }
def rmX4_isAtEndOfPart : Room := { frames := 1, cells := 0, slots := 0, locals := 20 }
def rmX4_readHead : Room := { frames := 2, cells := 0, slots := 0, locals := 46 }
def rmX5_isTickTaken : Room := { frames := 0, cells := 0, slots := 0, locals := 0 }
def rmX1_init : Room := { frames := 1, cells := 6, slots := 677, locals := 20 }
def rmX3_init : Room := { frames := 1, cells := 0, slots := 0, locals := 20 }
def rmX2_init : Room := { frames := 1, cells := 1, slots := 12, locals := 20 }
def rmX5_isThread : Room := { frames := 0, cells := 0, slots := 0, locals := 0 }
def rmX1_rowOf : Room := { frames := 1, cells := 0, slots := 0, locals := 20 }
def rmX3_readThread : Room := { frames := 2, cells := 0, slots := 0, locals := 46 }
def rmX3_readState : Room := { frames := 2, cells := 0, slots := 0, locals := 41 }
def rmX3_readCounter : Room := { frames := 2, cells := 0, slots := 0, locals := 46 }
def rmX5_hasBit : Room := { frames := 0, cells := 0, slots := 0, locals := 0 }
def rmX2_holds : Room := { frames := 1, cells := 0, slots := 0, locals := 21 }
def rmX5_isLock : Room := { frames := 0, cells := 0, slots := 0, locals := 0 }
def rmX1_holderOf : Room := { frames := 1, cells := 0, slots := 0, locals := 20 }
def rmX3_readHeldLock : Room := { frames := 2, cells := 0, slots := 0, locals := 46 }
def rmX3_readHeld : Room := { frames := 3, cells := 0, slots := 0, locals := 69 }
def rmX3_readWait : Room := { frames := 2, cells := 0, slots := 0, locals := 46 }
def rmX5_isLetter : Room := { frames := 0, cells := 0, slots := 0, locals := 0 }
def rmX2_addCall : Room := { frames := 0, cells := 0, slots := 0, locals := 0 }
def rmX3_readCalls : Room := { frames := 2, cells := 0, slots := 0, locals := 41 }
def rmX3_readRow : Room := { frames := 4, cells := 0, slots := 0, locals := 92 }
def rmX2_distanceTo : Room := { frames := 1, cells := 0, slots := 0, locals := 21 }
def rmX1_measureFrom : Room := { frames := 2, cells := 0, slots := 0, locals := 47 }
def rmX2_isWaiting : Room := { frames := 0, cells := 0, slots := 0, locals := 0 }
def rmX1_keep : Room := { frames := 3, cells := 0, slots := 0, locals := 73 }
def rmX3_readRows : Room := { frames := 5, cells := 52, slots := 494, locals := 113 }
def rmX2_waitsAtBit : Room := { frames := 1, cells := 0, slots := 0, locals := 20 }
def rmX1_awaitedBy : Room := { frames := 2, cells := 0, slots := 0, locals := 41 }
def rmX1_followChainOf : Room := { frames := 3, cells := 0, slots := 0, locals := 63 }
def rmX1_followChains : Room := { frames := 4, cells := 0, slots := 0, locals := 86 }
def rmX0_learnRow : Room := { frames := 2, cells := 0, slots := 0, locals := 42 }
def rmX0_stepBack : Room := { frames := 0, cells := 0, slots := 0, locals := 0 }
def rmX0_measureWaysBack : Room := { frames := 1, cells := 0, slots := 0, locals := 25 }
def rmX0_sizeOfRingFrom : Room := { frames := 1, cells := 0, slots := 0, locals := 21 }
def rmX0_lowestBehind : Room := { frames := 1, cells := 0, slots := 0, locals := 21 }
def rmX0_keepRing : Room := { frames := 2, cells := 0, slots := 0, locals := 44 }
def rmX0_findRing : Room := { frames := 3, cells := 0, slots := 0, locals := 68 }
def rmX0_learn : Room := { frames := 4, cells := 0, slots := 0, locals := 90 }
def rmX5_picture : Room := { frames := 6, cells := 60, slots := 1184, locals := 135 }
def rmX6_here : Room := { frames := 0, cells := 0, slots := 0, locals := 0 }
def rmX6_lies : Room := { frames := 0, cells := 0, slots := 0, locals := 0 }
def rmX6_seesDigit : Room := { frames := 1, cells := 0, slots := 0, locals := 22 }
def rmX6_tears : Room := { frames := 0, cells := 0, slots := 0, locals := 0 }
def rmX6_number : Room := { frames := 2, cells := 0, slots := 0, locals := 42 }
def rmX6_stateOf : Room := { frames := 0, cells := 0, slots := 0, locals := 0 }
def rmX6_heldBy : Room := { frames := 0, cells := 0, slots := 0, locals := 0 }
def rmX6_readLocks : Room := { frames := 3, cells := 0, slots := 0, locals := 65 }
def rmX6_readCalls : Room := { frames := 1, cells := 0, slots := 0, locals := 22 }
def rmX6_readRow : Room := { frames := 4, cells := 0, slots := 0, locals := 89 }
def rmX6_stands : Room := { frames := 0, cells := 0, slots := 0, locals := 0 }
def rmX6_picture : Room := { frames := 5, cells := 0, slots := 0, locals := 111 }
def rmX5_pictureAt : Room := { frames := 0, cells := 0, slots := 0, locals := 0 }
def rmX5_torn : Room := { frames := 1, cells := 0, slots := 0, locals := 21 }
def rmX6_isPicture : Room := { frames := 1, cells := 0, slots := 0, locals := 22 }
def rmX6_torn : Room := { frames := 2, cells := 0, slots := 0, locals := 43 }
def rmX5_rowAt : Room := { frames := 2, cells := 0, slots := 0, locals := 41 }
def rmX2_callAt : Room := { frames := 0, cells := 0, slots := 0, locals := 0 }
def rmX5_look : Room := { frames := 3, cells := 0, slots := 0, locals := 64 }
def rmX6_isThere : Room := { frames := 2, cells := 0, slots := 0, locals := 43 }
def rmX6_look : Room := { frames := 3, cells := 0, slots := 0, locals := 65 }
def rmX5_holder : Room := { frames := 2, cells := 0, slots := 0, locals := 41 }
def rmX6_holderOf : Room := { frames := 0, cells := 0, slots := 0, locals := 0 }
def rmX6_holder : Room := { frames := 2, cells := 0, slots := 0, locals := 43 }
def rmX1_sizeOfRingFrom : Room := { frames := 3, cells := 0, slots := 0, locals := 63 }
def rmX1_countRings : Room := { frames := 4, cells := 0, slots := 0, locals := 86 }
def rmX5_rings : Room := { frames := 5, cells := 0, slots := 0, locals := 108 }
def rmX6_next : Room := { frames := 1, cells := 0, slots := 0, locals := 23 }
def rmX6_back : Room := { frames := 2, cells := 0, slots := 0, locals := 45 }
def rmX6_isLowest : Room := { frames := 3, cells := 0, slots := 0, locals := 69 }
def rmX6_rings : Room := { frames := 4, cells := 0, slots := 0, locals := 94 }
def rmX1_walkFrom : Room := { frames := 3, cells := 0, slots := 0, locals := 63 }
def rmX1_threadOfRing : Room := { frames := 4, cells := 0, slots := 0, locals := 87 }
def rmX5_ring : Room := { frames := 5, cells := 0, slots := 0, locals := 112 }
def rmX6_after : Room := { frames := 2, cells := 0, slots := 0, locals := 45 }
def rmX6_ring : Room := { frames := 4, cells := 0, slots := 0, locals := 94 }
def rmX1_footOf : Room := { frames := 3, cells := 0, slots := 0, locals := 63 }
def rmX5_foot : Room := { frames := 4, cells := 0, slots := 0, locals := 88 }
def rmX6_foot : Room := { frames := 3, cells := 0, slots := 0, locals := 70 }
def rmX1_countThroughThread : Room := { frames := 1, cells := 0, slots := 0, locals := 21 }
def rmX5_through : Room := { frames := 2, cells := 0, slots := 0, locals := 44 }
def rmX6_comes : Room := { frames := 2, cells := 0, slots := 0, locals := 45 }
def rmX6_through : Room := { frames := 3, cells := 0, slots := 0, locals := 70 }
def rmX1_countThroughLock : Room := { frames := 1, cells := 0, slots := 0, locals := 21 }
def rmX5_weight : Room := { frames := 2, cells := 0, slots := 0, locals := 47 }
def rmX6_weightOf : Room := { frames := 2, cells := 0, slots := 0, locals := 45 }
def rmX6_weight : Room := { frames := 3, cells := 0, slots := 0, locals := 72 }
def rmX1_guiltyLock : Room := { frames := 2, cells := 0, slots := 0, locals := 47 }
def rmX5_guilty : Room := { frames := 3, cells := 0, slots := 0, locals := 71 }
def rmX6_guilty : Room := { frames := 3, cells := 0, slots := 0, locals := 72 }
def rmX2_hasCallsOf : Room := { frames := 0, cells := 0, slots := 0, locals := 0 }
def rmX2_isLike : Room := { frames := 1, cells := 0, slots := 0, locals := 22 }
def rmX5_isStuck : Room := { frames := 3, cells := 0, slots := 0, locals := 64 }
def rmX5_stuck : Room := { frames := 4, cells := 0, slots := 0, locals := 89 }
def rmX6_areAlike : Room := { frames := 0, cells := 0, slots := 0, locals := 0 }
def rmX6_isStuck : Room := { frames := 1, cells := 0, slots := 0, locals := 23 }
def rmX6_stuck : Room := { frames := 2, cells := 0, slots := 0, locals := 48 }
def rmX0_lockOfRing : Room := { frames := 0, cells := 0, slots := 0, locals := 0 }
def rmX5_broken : Room := { frames := 1, cells := 0, slots := 0, locals := 21 }
def rmX6_aheads : Room := { frames := 0, cells := 0, slots := 0, locals := 0 }
def rmX6_measures : Room := { frames := 0, cells := 0, slots := 0, locals := 0 }
def rmX6_breaks : Room := { frames := 1, cells := 0, slots := 0, locals := 26 }
def rmX6_broken : Room := { frames := 2, cells := 0, slots := 0, locals := 52 }
def rmX5_meter : Room := { frames := 0, cells := 0, slots := 0, locals := 0 }
def rmX6_meter : Room := { frames := 1, cells := 0, slots := 0, locals := 22 }
def rmJ9_floorMod_7cf53 : Room := { frames := 0, cells := 0, slots := 0, locals := 0 }
def rmX5_workBetween : Room := { frames := 2, cells := 0, slots := 0, locals := 41 }
def rmX5_work : Room := { frames := 3, cells := 0, slots := 0, locals := 70 }
def rmX6_work : Room := { frames := 3, cells := 0, slots := 0, locals := 65 }
def rmX1_distanceOf : Room := { frames := 1, cells := 0, slots := 0, locals := 20 }
def rmX5_distance : Room := { frames := 2, cells := 0, slots := 0, locals := 42 }
def rmX6_least : Room := { frames := 0, cells := 0, slots := 0, locals := 0 }
def rmX6_distanceOf : Room := { frames := 1, cells := 0, slots := 0, locals := 21 }
def rmX6_distance : Room := { frames := 3, cells := 0, slots := 0, locals := 65 }
def rmX5_isHeapWidth : Room := { frames := 0, cells := 0, slots := 0, locals := 0 }
def rmX5_lowestOf : Room := { frames := 1, cells := 0, slots := 0, locals := 21 }
def rmX1_neighboursOf : Room := { frames := 2, cells := 0, slots := 0, locals := 42 }
def rmX1_heapOf : Room := { frames := 3, cells := 0, slots := 0, locals := 66 }
def rmX1_countHeaps : Room := { frames := 4, cells := 0, slots := 0, locals := 92 }
def rmX5_heaps : Room := { frames := 5, cells := 0, slots := 0, locals := 116 }
def rmX6_hangs : Room := { frames := 2, cells := 0, slots := 0, locals := 47 }
def rmX6_heaps : Room := { frames := 3, cells := 0, slots := 0, locals := 72 }
def rmX5_heap : Room := { frames := 4, cells := 0, slots := 0, locals := 92 }
def rmX6_heap : Room := { frames := 3, cells := 0, slots := 0, locals := 72 }
def rmX5_countAhead : Room := { frames := 0, cells := 0, slots := 0, locals := 0 }
def rmX5_order : Room := { frames := 1, cells := 0, slots := 0, locals := 26 }
def rmX6_order : Room := { frames := 0, cells := 0, slots := 0, locals := 0 }
def rmX5_countOfReader : Room := { frames := 0, cells := 0, slots := 0, locals := 0 }
def rmX5_count : Room := { frames := 1, cells := 0, slots := 0, locals := 21 }
def rmX6_count : Room := { frames := 2, cells := 0, slots := 0, locals := 43 }
def rmL_law : Room := { frames := 7, cells := 0, slots := 0, locals := 158 }
theorem tb_in {w : Cond} (i : Nat) (h : lw_tbl[i]? = some w) (g : goodWord w = true) : w ∈ TBG := List.mem_filter.mpr ⟨List.mem_of_getElem? h, g⟩
theorem tb_nn {w : Cond} (i : Nat) (h : lw_tbl[i]? = some w) (g : zNst w = true) : w ∈ TBN := List.mem_filter.mpr ⟨List.mem_of_getElem? h, g⟩
theorem fi_0_0 : 0 < nF 0 ∧ kd 0 0 = 2 ∧ (True) := by decide +kernel
theorem fi_0_1 : 1 < nF 0 ∧ kd 0 1 = 2 ∧ (True) := by decide +kernel
theorem fi_0_2 : 2 < nF 0 ∧ kd 0 2 = 2 ∧ (True) := by decide +kernel
theorem fi_0_3 : 3 < nF 0 ∧ kd 0 3 = 0 ∧ ((TT 0 3).2.2.2 = false) := by decide +kernel
theorem fi_1_0 : 0 < nF 1 ∧ kd 1 0 = 0 ∧ (True) := by decide +kernel
theorem fi_1_1 : 1 < nF 1 ∧ kd 1 1 = 5 ∧ (kd 1 1 = 5 ∨ kd 1 1 = 6) := by decide +kernel
theorem fi_1_2 : 2 < nF 1 ∧ kd 1 2 = 2 ∧ (True) := by decide +kernel
theorem fi_1_3 : 3 < nF 1 ∧ kd 1 3 = 2 ∧ (True) := by decide +kernel
theorem fi_1_4 : 4 < nF 1 ∧ kd 1 4 = 2 ∧ (True) := by decide +kernel
theorem fi_1_5 : 5 < nF 1 ∧ kd 1 5 = 3 ∧ (True) := by decide +kernel
theorem fi_1_6 : 6 < nF 1 ∧ kd 1 6 = 2 ∧ (True) := by decide +kernel
theorem fi_1_7 : 7 < nF 1 ∧ kd 1 7 = 0 ∧ ((TT 1 7).2.2.2 = false) := by decide +kernel
theorem fi_1_8 : 8 < nF 1 ∧ kd 1 8 = 0 ∧ ((TT 1 8).2.2.2 = false) := by decide +kernel
theorem fi_1_9 : 9 < nF 1 ∧ kd 1 9 = 0 ∧ ((TT 1 9).2.2.2 = false) := by decide +kernel
theorem fi_1_10 : 10 < nF 1 ∧ kd 1 10 = 0 ∧ ((TT 1 10).2.2.2 = false) := by decide +kernel
theorem fi_2_0 : 0 < nF 2 ∧ kd 2 0 = 3 ∧ (True) := by decide +kernel
theorem fi_2_1 : 1 < nF 2 ∧ kd 2 1 = 0 ∧ ((TT 2 1).2.2.2 = false) := by decide +kernel
theorem fi_2_2 : 2 < nF 2 ∧ kd 2 2 = 0 ∧ ((TT 2 2).2.2.2 = false) := by decide +kernel
theorem fi_2_3 : 3 < nF 2 ∧ kd 2 3 = 0 ∧ ((TT 2 3).2.2.2 = false) := by decide +kernel
theorem fi_2_4 : 4 < nF 2 ∧ kd 2 4 = 0 ∧ ((TT 2 4).2.2.2 = false) := by decide +kernel
theorem fi_2_5 : 5 < nF 2 ∧ kd 2 5 = 0 ∧ ((TT 2 5).2.2.2 = false) := by decide +kernel
theorem fi_2_6 : 6 < nF 2 ∧ kd 2 6 = 0 ∧ ((TT 2 6).2.2.2 = false) := by decide +kernel
theorem fi_3_0 : 0 < nF 3 ∧ kd 3 0 = 1 ∧ (True) := by decide +kernel
theorem fi_3_1 : 1 < nF 3 ∧ kd 3 1 = 1 ∧ (True) := by decide +kernel
theorem fi_4_0 : 0 < nF 4 ∧ kd 4 0 = 3 ∧ (True) := by decide +kernel
theorem fi_4_1 : 1 < nF 4 ∧ kd 4 1 = 0 ∧ ((TT 4 1).2.2.2 = false) := by decide +kernel
theorem fi_4_2 : 2 < nF 4 ∧ kd 4 2 = 0 ∧ ((TT 4 2).2.2.2 = false) := by decide +kernel
theorem fi_4_3 : 3 < nF 4 ∧ kd 4 3 = 0 ∧ ((TT 4 3).2.2.2 = false) := by decide +kernel
theorem fi_5_0 : 0 < nF 5 ∧ kd 5 0 = 1 ∧ (True) := by decide +kernel
theorem fi_5_1 : 1 < nF 5 ∧ kd 5 1 = 6 ∧ (kd 5 1 = 5 ∨ kd 5 1 = 6) := by decide +kernel
theorem fi_5_2 : 2 < nF 5 ∧ kd 5 2 = 1 ∧ (True) := by decide +kernel
theorem fi_5_3 : 3 < nF 5 ∧ kd 5 3 = 0 ∧ ((TT 5 3).2.2.2 = false) := by decide +kernel
theorem fi_5_4 : 4 < nF 5 ∧ kd 5 4 = 0 ∧ ((TT 5 4).2.2.2 = false) := by decide +kernel
theorem fi_5_5 : 5 < nF 5 ∧ kd 5 5 = 0 ∧ ((TT 5 5).2.2.2 = false) := by decide +kernel
theorem fi_6_0 : 0 < nF 6 ∧ kd 6 0 = 3 ∧ (True) := by decide +kernel
theorem fi_6_1 : 1 < nF 6 ∧ kd 6 1 = 0 ∧ ((TT 6 1).2.2.2 = false) := by decide +kernel
theorem fi_6_2 : 2 < nF 6 ∧ kd 6 2 = 0 ∧ ((TT 6 2).2.2.2 = false) := by decide +kernel
theorem fi_6_3 : 3 < nF 6 ∧ kd 6 3 = 0 ∧ ((TT 6 3).2.2.2 = false) := by decide +kernel
theorem fi_6_4 : 4 < nF 6 ∧ kd 6 4 = 0 ∧ ((TT 6 4).2.2.2 = false) := by decide +kernel
theorem fi_6_5 : 5 < nF 6 ∧ kd 6 5 = 2 ∧ (True) := by decide +kernel
theorem fi_6_6 : 6 < nF 6 ∧ kd 6 6 = 2 ∧ (True) := by decide +kernel
theorem fi_6_7 : 7 < nF 6 ∧ kd 6 7 = 4 ∧ (True) := by decide +kernel
theorem fi_6_8 : 8 < nF 6 ∧ kd 6 8 = 2 ∧ (True) := by decide +kernel
theorem fi_6_9 : 9 < nF 6 ∧ kd 6 9 = 2 ∧ (True) := by decide +kernel
theorem fi_6_10 : 10 < nF 6 ∧ kd 6 10 = 2 ∧ (True) := by decide +kernel
theorem fi_6_11 : 11 < nF 6 ∧ kd 6 11 = 2 ∧ (True) := by decide +kernel
theorem fi_6_12 : 12 < nF 6 ∧ kd 6 12 = 2 ∧ (True) := by decide +kernel
theorem fi_6_13 : 13 < nF 6 ∧ kd 6 13 = 3 ∧ (True) := by decide +kernel
theorem fi_6_14 : 14 < nF 6 ∧ kd 6 14 = 0 ∧ ((TT 6 14).2.2.2 = false) := by decide +kernel
theorem fi_6_15 : 15 < nF 6 ∧ kd 6 15 = 0 ∧ ((TT 6 15).2.2.2 = false) := by decide +kernel
theorem fi_6_16 : 16 < nF 6 ∧ kd 6 16 = 0 ∧ ((TT 6 16).2.2.2 = false) := by decide +kernel
theorem fi_6_17 : 17 < nF 6 ∧ kd 6 17 = 0 ∧ ((TT 6 17).2.2.2 = false) := by decide +kernel
theorem fi_6_18 : 18 < nF 6 ∧ kd 6 18 = 0 ∧ ((TT 6 18).2.2.2 = false) := by decide +kernel
theorem fi_6_19 : 19 < nF 6 ∧ kd 6 19 = 0 ∧ ((TT 6 19).2.2.2 = false) := by decide +kernel
theorem fi_6_20 : 20 < nF 6 ∧ kd 6 20 = 0 ∧ ((TT 6 20).2.2.2 = false) := by decide +kernel
theorem fi_6_21 : 21 < nF 6 ∧ kd 6 21 = 0 ∧ ((TT 6 21).2.2.2 = false) := by decide +kernel
theorem fi_6_22 : 22 < nF 6 ∧ kd 6 22 = 0 ∧ ((TT 6 22).2.2.2 = false) := by decide +kernel
theorem fi_6_23 : 23 < nF 6 ∧ kd 6 23 = 0 ∧ ((TT 6 23).2.2.2 = false) := by decide +kernel
theorem fi_6_24 : 24 < nF 6 ∧ kd 6 24 = 3 ∧ (True) := by decide +kernel
theorem fi_6_25 : 25 < nF 6 ∧ kd 6 25 = 2 ∧ (True) := by decide +kernel
theorem fi_6_26 : 26 < nF 6 ∧ kd 6 26 = 2 ∧ (True) := by decide +kernel
theorem fi_6_27 : 27 < nF 6 ∧ kd 6 27 = 2 ∧ (True) := by decide +kernel
theorem fi_6_28 : 28 < nF 6 ∧ kd 6 28 = 0 ∧ ((TT 6 28).2.2.2 = false) := by decide +kernel
theorem fi_6_29 : 29 < nF 6 ∧ kd 6 29 = 2 ∧ (True) := by decide +kernel
theorem fi_6_30 : 30 < nF 6 ∧ kd 6 30 = 2 ∧ (True) := by decide +kernel
theorem fk_X0_15 : FL RX0 15 0 1 := Or.inl (tb_in 102 (by decide +kernel) (by decide +kernel))
theorem fk_X0_18 : FL RX0 18 0 2 := Or.inl (tb_in 103 (by decide +kernel) (by decide +kernel))
theorem fk_X0_21 : FL RX0 21 1 1 := Or.inr ⟨"StuckHands", tb_nn 194 (by decide +kernel) (by decide +kernel)⟩
theorem fk_X0_40 : FL RX0 40 0 3 := Or.inl (tb_in 104 (by decide +kernel) (by decide +kernel))
theorem fk_X0_48 : FL RX0 48 2 5 := Or.inr ⟨"StuckHands", tb_nn 270 (by decide +kernel) (by decide +kernel)⟩
theorem fk_X0_9 : FL RX0 9 0 0 := Or.inl (tb_in 101 (by decide +kernel) (by decide +kernel))
theorem fk_X1_17 : FL RX1 17 1 1 := Or.inl (tb_in 193 (by decide +kernel) (by decide +kernel))
theorem fk_X1_21 : FL RX1 21 1 2 := Or.inl (tb_in 195 (by decide +kernel) (by decide +kernel))
theorem fk_X1_25 : FL RX1 25 1 3 := Or.inl (tb_in 196 (by decide +kernel) (by decide +kernel))
theorem fk_X1_28 : FL RX1 28 1 4 := Or.inl (tb_in 197 (by decide +kernel) (by decide +kernel))
theorem fk_X1_31 : FL RX1 31 1 5 := Or.inl (tb_in 198 (by decide +kernel) (by decide +kernel))
theorem fk_X1_35 : FL RX1 35 1 6 := Or.inl (tb_in 199 (by decide +kernel) (by decide +kernel))
theorem fk_X1_41 : FL RX1 41 2 1 := Or.inr ⟨"StuckHands", tb_nn 258 (by decide +kernel) (by decide +kernel)⟩
theorem fk_X1_52 : FL RX1 52 1 8 := Or.inl (tb_in 203 (by decide +kernel) (by decide +kernel))
theorem fk_X1_59 : FL RX1 59 1 9 := Or.inl (tb_in 205 (by decide +kernel) (by decide +kernel))
theorem fk_X1_65 : FL RX1 65 1 10 := Or.inl (tb_in 207 (by decide +kernel) (by decide +kernel))
theorem fk_X1_79 : FL RX1 79 2 5 := Or.inr ⟨"StuckHands", tb_nn 272 (by decide +kernel) (by decide +kernel)⟩
theorem fk_X2_19 : FL RX2 19 2 5 := Or.inl (tb_in 269 (by decide +kernel) (by decide +kernel))
theorem fk_X2_22 : FL RX2 22 2 6 := Or.inl (tb_in 274 (by decide +kernel) (by decide +kernel))
theorem fk_X2_25 : FL RX2 25 2 4 := Or.inl (tb_in 266 (by decide +kernel) (by decide +kernel))
theorem fk_X2_36 : FL RX2 36 2 2 := Or.inl (tb_in 262 (by decide +kernel) (by decide +kernel))
theorem fk_X2_39 : FL RX2 39 2 3 := Or.inl (tb_in 265 (by decide +kernel) (by decide +kernel))
theorem fk_X2_9 : FL RX2 9 2 0 := Or.inl (tb_in 256 (by decide +kernel) (by decide +kernel))
theorem fk_X3_101 : FL RX3 101 2 5 := Or.inr ⟨"StuckHands", tb_nn 273 (by decide +kernel) (by decide +kernel)⟩
theorem fk_X3_115 : FL RX3 115 2 6 := Or.inr ⟨"StuckHands", tb_nn 276 (by decide +kernel) (by decide +kernel)⟩
theorem fk_X3_15 : FL RX3 15 3 1 := Or.inl (tb_in 239 (by decide +kernel) (by decide +kernel))
theorem fk_X3_32 : FL RX3 32 4 3 := Or.inr ⟨"StuckHands", tb_nn 81 (by decide +kernel) (by decide +kernel)⟩
theorem fk_X3_36 : FL RX3 36 1 7 := Or.inr ⟨"StuckHands", tb_nn 201 (by decide +kernel) (by decide +kernel)⟩
theorem fk_X3_71 : FL RX3 71 2 1 := Or.inr ⟨"StuckHands", tb_nn 259 (by decide +kernel) (by decide +kernel)⟩
theorem fk_X3_82 : FL RX3 82 2 2 := Or.inr ⟨"StuckHands", tb_nn 260 (by decide +kernel) (by decide +kernel)⟩
theorem fk_X3_85 : FL RX3 85 2 3 := Or.inr ⟨"StuckHands", tb_nn 264 (by decide +kernel) (by decide +kernel)⟩
theorem fk_X3_9 : FL RX3 9 3 0 := Or.inl (tb_in 238 (by decide +kernel) (by decide +kernel))
theorem fk_X3_98 : FL RX3 98 2 4 := Or.inr ⟨"StuckHands", tb_nn 268 (by decide +kernel) (by decide +kernel)⟩
theorem fk_X4_15 : FL RX4 15 4 1 := Or.inl (tb_in 79 (by decide +kernel) (by decide +kernel))
theorem fk_X4_25 : FL RX4 25 4 2 := Or.inl (tb_in 80 (by decide +kernel) (by decide +kernel))
theorem fk_X4_28 : FL RX4 28 4 3 := Or.inl (tb_in 82 (by decide +kernel) (by decide +kernel))
theorem fk_X4_9 : FL RX4 9 4 0 := Or.inl (tb_in 77 (by decide +kernel) (by decide +kernel))
theorem fk_X5_10 : FL RX5 10 5 0 := Or.inl (tb_in 115 (by decide +kernel) (by decide +kernel))
theorem fk_X5_141 : FL RX5 141 1 0 := Or.inr ⟨"StuckHands", tb_nn 192 (by decide +kernel) (by decide +kernel)⟩
theorem fk_X5_169 : FL RX5 169 1 8 := Or.inr ⟨"StuckHands", tb_nn 204 (by decide +kernel) (by decide +kernel)⟩
theorem fk_X5_172 : FL RX5 172 1 9 := Or.inr ⟨"StuckHands", tb_nn 206 (by decide +kernel) (by decide +kernel)⟩
theorem fk_X5_175 : FL RX5 175 1 10 := Or.inr ⟨"StuckHands", tb_nn 208 (by decide +kernel) (by decide +kernel)⟩
theorem fk_X5_18 : FL RX5 18 5 1 := Or.inl (tb_in 116 (by decide +kernel) (by decide +kernel))
theorem fk_X5_25 : FL RX5 25 5 2 := Or.inl (tb_in 117 (by decide +kernel) (by decide +kernel))
theorem fk_X5_29 : FL RX5 29 5 3 := Or.inl (tb_in 118 (by decide +kernel) (by decide +kernel))
theorem fk_X5_33 : FL RX5 33 5 4 := Or.inl (tb_in 119 (by decide +kernel) (by decide +kernel))
theorem fk_X5_36 : FL RX5 36 5 5 := Or.inl (tb_in 120 (by decide +kernel) (by decide +kernel))
theorem fk_X5_39 : FL RX5 39 4 1 := Or.inr ⟨"StuckHands", tb_nn 78 (by decide +kernel) (by decide +kernel)⟩
theorem fk_X5_78 : FL RX5 78 1 7 := Or.inr ⟨"StuckHands", tb_nn 202 (by decide +kernel) (by decide +kernel)⟩
theorem fk_X5_85 : FL RX5 85 2 2 := Or.inr ⟨"StuckHands", tb_nn 261 (by decide +kernel) (by decide +kernel)⟩
theorem fk_X5_90 : FL RX5 90 2 3 := Or.inr ⟨"StuckHands", tb_nn 263 (by decide +kernel) (by decide +kernel)⟩
theorem fk_X5_93 : FL RX5 93 2 4 := Or.inr ⟨"StuckHands", tb_nn 267 (by decide +kernel) (by decide +kernel)⟩
theorem fk_X5_96 : FL RX5 96 2 5 := Or.inr ⟨"StuckHands", tb_nn 271 (by decide +kernel) (by decide +kernel)⟩
theorem fk_X5_99 : FL RX5 99 2 6 := Or.inr ⟨"StuckHands", tb_nn 275 (by decide +kernel) (by decide +kernel)⟩
theorem fk_X6_109 : FL RX6 109 6 21 := Or.inl (tb_in 634 (by decide +kernel) (by decide +kernel))
theorem fk_X6_112 : FL RX6 112 6 23 := Or.inl (tb_in 636 (by decide +kernel) (by decide +kernel))
theorem fk_X6_115 : FL RX6 115 6 22 := Or.inl (tb_in 635 (by decide +kernel) (by decide +kernel))
theorem fk_X6_118 : FL RX6 118 6 18 := Or.inl (tb_in 631 (by decide +kernel) (by decide +kernel))
theorem fk_X6_124 : FL RX6 124 6 19 := Or.inl (tb_in 632 (by decide +kernel) (by decide +kernel))
theorem fk_X6_127 : FL RX6 127 6 20 := Or.inl (tb_in 633 (by decide +kernel) (by decide +kernel))
theorem fk_X6_13 : FL RX6 13 6 3 := Or.inl (tb_in 616 (by decide +kernel) (by decide +kernel))
theorem fk_X6_136 : FL RX6 136 6 2 := Or.inl (tb_in 615 (by decide +kernel) (by decide +kernel))
theorem fk_X6_17 : FL RX6 17 6 4 := Or.inl (tb_in 617 (by decide +kernel) (by decide +kernel))
theorem fk_X6_184 : FL RX6 184 6 28 := Or.inl (tb_in 641 (by decide +kernel) (by decide +kernel))
theorem fk_X6_20 : FL RX6 20 6 5 := Or.inl (tb_in 618 (by decide +kernel) (by decide +kernel))
theorem fk_X6_24 : FL RX6 24 6 6 := Or.inl (tb_in 619 (by decide +kernel) (by decide +kernel))
theorem fk_X6_27 : FL RX6 27 6 7 := Or.inl (tb_in 620 (by decide +kernel) (by decide +kernel))
theorem fk_X6_31 : FL RX6 31 6 8 := Or.inl (tb_in 621 (by decide +kernel) (by decide +kernel))
theorem fk_X6_34 : FL RX6 34 6 9 := Or.inl (tb_in 622 (by decide +kernel) (by decide +kernel))
theorem fk_X6_37 : FL RX6 37 6 10 := Or.inl (tb_in 623 (by decide +kernel) (by decide +kernel))
theorem fk_X6_40 : FL RX6 40 6 11 := Or.inl (tb_in 624 (by decide +kernel) (by decide +kernel))
theorem fk_X6_43 : FL RX6 43 6 12 := Or.inl (tb_in 625 (by decide +kernel) (by decide +kernel))
theorem fk_X6_46 : FL RX6 46 6 13 := Or.inl (tb_in 626 (by decide +kernel) (by decide +kernel))
theorem fk_X6_49 : FL RX6 49 6 24 := Or.inl (tb_in 637 (by decide +kernel) (by decide +kernel))
theorem fk_X6_52 : FL RX6 52 6 25 := Or.inl (tb_in 638 (by decide +kernel) (by decide +kernel))
theorem fk_X6_55 : FL RX6 55 6 26 := Or.inl (tb_in 639 (by decide +kernel) (by decide +kernel))
theorem fk_X6_58 : FL RX6 58 6 27 := Or.inl (tb_in 640 (by decide +kernel) (by decide +kernel))
theorem fk_X6_61 : FL RX6 61 6 29 := Or.inl (tb_in 642 (by decide +kernel) (by decide +kernel))
theorem fk_X6_64 : FL RX6 64 6 30 := Or.inl (tb_in 643 (by decide +kernel) (by decide +kernel))
theorem fk_X6_67 : FL RX6 67 6 1 := Or.inl (tb_in 614 (by decide +kernel) (by decide +kernel))
theorem fk_X6_7 : FL RX6 7 6 0 := Or.inl (tb_in 613 (by decide +kernel) (by decide +kernel))
theorem fk_X6_74 : FL RX6 74 6 14 := Or.inl (tb_in 627 (by decide +kernel) (by decide +kernel))
theorem fk_X6_77 : FL RX6 77 6 15 := Or.inl (tb_in 628 (by decide +kernel) (by decide +kernel))
theorem fk_X6_88 : FL RX6 88 6 16 := Or.inl (tb_in 629 (by decide +kernel) (by decide +kernel))
theorem fk_X6_91 : FL RX6 91 6 17 := Or.inl (tb_in 630 (by decide +kernel) (by decide +kernel))
theorem ml_X0_27 : ML RX0 27 yX2_isWaiting := Or.inl (tb_in 398 (by decide +kernel) (by decide +kernel))
theorem ml_X0_33 : ML RX0 33 yX0_learnRow := Or.inl (tb_in 399 (by decide +kernel) (by decide +kernel))
theorem ml_X0_37 : ML RX0 37 yX0_findRing := Or.inl (tb_in 404 (by decide +kernel) (by decide +kernel))
theorem ml_X0_44 : ML RX0 44 yX2_holds := Or.inl (tb_in 403 (by decide +kernel) (by decide +kernel))
theorem ml_X0_51 : ML RX0 51 yX0_measureWaysBack := Or.inl (tb_in 408 (by decide +kernel) (by decide +kernel))
theorem ml_X0_55 : ML RX0 55 yX0_sizeOfRingFrom := Or.inl (tb_in 416 (by decide +kernel) (by decide +kernel))
theorem ml_X0_59 : ML RX0 59 yX0_keepRing := Or.inl (tb_in 422 (by decide +kernel) (by decide +kernel))
theorem ml_X0_63 : ML RX0 63 yX0_stepBack := Or.inl (tb_in 412 (by decide +kernel) (by decide +kernel))
theorem ml_X0_67 : ML RX0 67 yX5_hasBit := Or.inr ⟨"StuckHands", tb_nn 420 (by decide +kernel) (by decide +kernel)⟩
theorem ml_X0_71 : ML RX0 71 yJ9_min_7cf53 := Or.inl (tb_in 421 (by decide +kernel) (by decide +kernel))
theorem ml_X0_77 : ML RX0 77 yX0_lowestBehind := Or.inl (tb_in 426 (by decide +kernel) (by decide +kernel))
theorem ml_X1_100 : ML RX1 100 yX5_hasBit := Or.inr ⟨"StuckHands", tb_nn 382 (by decide +kernel) (by decide +kernel)⟩
theorem ml_X1_104 : ML RX1 104 yX2_waitsAtBit := Or.inl (tb_in 383 (by decide +kernel) (by decide +kernel))
theorem ml_X1_108 : ML RX1 108 yX1_countThroughLock := Or.inl (tb_in 513 (by decide +kernel) (by decide +kernel))
theorem ml_X1_111 : ML RX1 111 yX1_heapOf := Or.inl (tb_in 572 (by decide +kernel) (by decide +kernel))
theorem ml_X1_114 : ML RX1 114 yX5_lowestOf := Or.inr ⟨"StuckHands", tb_nn 576 (by decide +kernel) (by decide +kernel)⟩
theorem ml_X1_117 : ML RX1 117 yX1_neighboursOf := Or.inl (tb_in 580 (by decide +kernel) (by decide +kernel))
theorem ml_X1_120 : ML RX1 120 yX1_distanceOf := Or.inl (tb_in 584 (by decide +kernel) (by decide +kernel))
theorem ml_X1_44 : ML RX1 44 yX5_isThread := Or.inr ⟨"StuckHands", tb_nn 305 (by decide +kernel) (by decide +kernel)⟩
theorem ml_X1_48 : ML RX1 48 yX1_measureFrom := Or.inl (tb_in 360 (by decide +kernel) (by decide +kernel))
theorem ml_X1_55 : ML RX1 55 yX2_isWaiting := Or.inl (tb_in 369 (by decide +kernel) (by decide +kernel))
theorem ml_X1_62 : ML RX1 62 yX2_holds := Or.inl (tb_in 373 (by decide +kernel) (by decide +kernel))
theorem ml_X1_68 : ML RX1 68 yX2_distanceTo := Or.inl (tb_in 364 (by decide +kernel) (by decide +kernel))
theorem ml_X1_72 : ML RX1 72 yX5_isLock := Or.inr ⟨"StuckHands", tb_nn 336 (by decide +kernel) (by decide +kernel)⟩
theorem ml_X1_75 : ML RX1 75 yX1_rowOf := Or.inl (tb_in 392 (by decide +kernel) (by decide +kernel))
theorem ml_X1_82 : ML RX1 82 yX1_holderOf := Or.inl (tb_in 393 (by decide +kernel) (by decide +kernel))
theorem ml_X1_86 : ML RX1 86 yX1_sizeOfRingFrom := Or.inl (tb_in 464 (by decide +kernel) (by decide +kernel))
theorem ml_X1_89 : ML RX1 89 yX1_awaitedBy := Or.inl (tb_in 388 (by decide +kernel) (by decide +kernel))
theorem ml_X1_92 : ML RX1 92 yX1_walkFrom := Or.inl (tb_in 476 (by decide +kernel) (by decide +kernel))
theorem ml_X1_96 : ML RX1 96 yX1_followChainOf := Or.inl (tb_in 378 (by decide +kernel) (by decide +kernel))
theorem ml_X2_28 : ML RX2 28 yX5_hasBit := Or.inr ⟨"StuckHands", tb_nn 329 (by decide +kernel) (by decide +kernel)⟩
theorem ml_X2_32 : ML RX2 32 yX2_isWaiting := Or.inl (tb_in 387 (by decide +kernel) (by decide +kernel))
theorem ml_X2_42 : ML RX2 42 yX2_hasCallsOf := Or.inl (tb_in 526 (by decide +kernel) (by decide +kernel))
theorem ml_X2_46 : ML RX2 46 yJ9_min_7cf53 := Or.inl (tb_in 368 (by decide +kernel) (by decide +kernel))
theorem ml_X3_104 : ML RX3 104 yX4_next := Or.inl (tb_in 347 (by decide +kernel) (by decide +kernel))
theorem ml_X3_108 : ML RX3 108 yX5_isLetter := Or.inr ⟨"StuckHands", tb_nn 348 (by decide +kernel) (by decide +kernel)⟩
theorem ml_X3_111 : ML RX3 111 yX2_addCall := Or.inl (tb_in 351 (by decide +kernel) (by decide +kernel))
theorem ml_X3_19 : ML RX3 19 yX4_take := Or.inl (tb_in 249 (by decide +kernel) (by decide +kernel))
theorem ml_X3_27 : ML RX3 27 yX2_init := Or.inl (tb_in 252 (by decide +kernel) (by decide +kernel))
theorem ml_X3_28 : ML RX3 28 yX3_readRow := Or.inl (tb_in 292 (by decide +kernel) (by decide +kernel))
theorem ml_X3_41 : ML RX3 41 yX1_keep := Or.inl (tb_in 356 (by decide +kernel) (by decide +kernel))
theorem ml_X3_45 : ML RX3 45 yX3_readThread := Or.inl (tb_in 296 (by decide +kernel) (by decide +kernel))
theorem ml_X3_48 : ML RX3 48 yX3_readState := Or.inl (tb_in 309 (by decide +kernel) (by decide +kernel))
theorem ml_X3_51 : ML RX3 51 yX3_readCounter := Or.inl (tb_in 313 (by decide +kernel) (by decide +kernel))
theorem ml_X3_54 : ML RX3 54 yX3_readHeld := Or.inl (tb_in 317 (by decide +kernel) (by decide +kernel))
theorem ml_X3_57 : ML RX3 57 yX3_readWait := Or.inl (tb_in 339 (by decide +kernel) (by decide +kernel))
theorem ml_X3_60 : ML RX3 60 yX3_readCalls := Or.inl (tb_in 343 (by decide +kernel) (by decide +kernel))
theorem ml_X3_63 : ML RX3 63 yX4_isAtEndOfPart := Or.inl (tb_in 355 (by decide +kernel) (by decide +kernel))
theorem ml_X3_67 : ML RX3 67 yX4_takeNumber := Or.inl (tb_in 300 (by decide +kernel) (by decide +kernel))
theorem ml_X3_74 : ML RX3 74 yX1_rowOf := Or.inl (tb_in 301 (by decide +kernel) (by decide +kernel))
theorem ml_X3_78 : ML RX3 78 yX4_tearAt := Or.inl (tb_in 308 (by decide +kernel) (by decide +kernel))
theorem ml_X3_88 : ML RX3 88 yX3_readHeldLock := Or.inl (tb_in 321 (by decide +kernel) (by decide +kernel))
theorem ml_X3_91 : ML RX3 91 yX2_holds := Or.inl (tb_in 325 (by decide +kernel) (by decide +kernel))
theorem ml_X3_95 : ML RX3 95 yX1_holderOf := Or.inl (tb_in 332 (by decide +kernel) (by decide +kernel))
theorem ml_X4_19 : ML RX4 19 yJ9_min_7cf53 := Or.inl (tb_in 150 (by decide +kernel) (by decide +kernel))
theorem ml_X4_31 : ML RX4 31 yX4_next := Or.inl (tb_in 161 (by decide +kernel) (by decide +kernel))
theorem ml_X4_35 : ML RX4 35 yX5_isDigit := Or.inr ⟨"StuckHands", tb_nn 169 (by decide +kernel) (by decide +kernel)⟩
theorem ml_X4_39 : ML RX4 39 yX4_tearAt := Or.inl (tb_in 172 (by decide +kernel) (by decide +kernel))
theorem ml_X4_43 : ML RX4 43 yX4_take := Or.inl (tb_in 157 (by decide +kernel) (by decide +kernel))
theorem ml_X4_47 : ML RX4 47 yX4_takeNumber := Or.inl (tb_in 165 (by decide +kernel) (by decide +kernel))
theorem ml_X4_50 : ML RX4 50 yX4_isAtEndOfPart := Or.inl (tb_in 176 (by decide +kernel) (by decide +kernel))
theorem ml_X5_102 : ML RX5 102 yX2_callAt := Or.inl (tb_in 447 (by decide +kernel) (by decide +kernel))
theorem ml_X5_106 : ML RX5 106 yX1_holderOf := Or.inl (tb_in 455 (by decide +kernel) (by decide +kernel))
theorem ml_X5_109 : ML RX5 109 yX1_countRings := Or.inl (tb_in 460 (by decide +kernel) (by decide +kernel))
theorem ml_X5_112 : ML RX5 112 yX1_threadOfRing := Or.inl (tb_in 472 (by decide +kernel) (by decide +kernel))
theorem ml_X5_116 : ML RX5 116 yX1_footOf := Or.inl (tb_in 484 (by decide +kernel) (by decide +kernel))
theorem ml_X5_119 : ML RX5 119 yX1_rowOf := Or.inl (tb_in 446 (by decide +kernel) (by decide +kernel))
theorem ml_X5_123 : ML RX5 123 yX1_countThroughThread := Or.inl (tb_in 492 (by decide +kernel) (by decide +kernel))
theorem ml_X5_126 : ML RX5 126 yX5_isLock := Or.inl (tb_in 500 (by decide +kernel) (by decide +kernel))
theorem ml_X5_129 : ML RX5 129 yX1_countThroughLock := Or.inl (tb_in 501 (by decide +kernel) (by decide +kernel))
theorem ml_X5_132 : ML RX5 132 yX1_guiltyLock := Or.inl (tb_in 509 (by decide +kernel) (by decide +kernel))
theorem ml_X5_135 : ML RX5 135 yX5_isStuck := Or.inl (tb_in 518 (by decide +kernel) (by decide +kernel))
theorem ml_X5_138 : ML RX5 138 yX0_lockOfRing := Or.inl (tb_in 534 (by decide +kernel) (by decide +kernel))
theorem ml_X5_144 : ML RX5 144 yX5_workBetween := Or.inl (tb_in 546 (by decide +kernel) (by decide +kernel))
theorem ml_X5_148 : ML RX5 148 yX1_distanceOf := Or.inl (tb_in 557 (by decide +kernel) (by decide +kernel))
theorem ml_X5_151 : ML RX5 151 yX5_isHeapWidth := Or.inl (tb_in 565 (by decide +kernel) (by decide +kernel))
theorem ml_X5_154 : ML RX5 154 yX1_countHeaps := Or.inl (tb_in 568 (by decide +kernel) (by decide +kernel))
theorem ml_X5_157 : ML RX5 157 yX1_heapOf := Or.inl (tb_in 589 (by decide +kernel) (by decide +kernel))
theorem ml_X5_160 : ML RX5 160 yX5_lowestOf := Or.inl (tb_in 590 (by decide +kernel) (by decide +kernel))
theorem ml_X5_163 : ML RX5 163 yX5_countAhead := Or.inl (tb_in 595 (by decide +kernel) (by decide +kernel))
theorem ml_X5_166 : ML RX5 166 yX5_countOfReader := Or.inl (tb_in 603 (by decide +kernel) (by decide +kernel))
theorem ml_X5_178 : ML RX5 178 yJ9_floorMod_7cf53 := Or.inl (tb_in 550 (by decide +kernel) (by decide +kernel))
theorem ml_X5_183 : ML RX5 183 yX2_isLike := Or.inl (tb_in 522 (by decide +kernel) (by decide +kernel))
theorem ml_X5_187 : ML RX5 187 yX5_hasBit := Or.inl (tb_in 579 (by decide +kernel) (by decide +kernel))
theorem ml_X5_42 : ML RX5 42 yX4_append := Or.inl (tb_in 138 (by decide +kernel) (by decide +kernel))
theorem ml_X5_46 : ML RX5 46 yX4_openText := Or.inl (tb_in 146 (by decide +kernel) (by decide +kernel))
theorem ml_X5_49 : ML RX5 49 yX4_readHead := Or.inl (tb_in 153 (by decide +kernel) (by decide +kernel))
theorem ml_X5_53 : ML RX5 53 yX5_isTickTaken := Or.inl (tb_in 180 (by decide +kernel) (by decide +kernel))
theorem ml_X5_57 : ML RX5 57 yX1_init := Or.inl (tb_in 185 (by decide +kernel) (by decide +kernel))
theorem ml_X5_61 : ML RX5 61 yX3_init := Or.inl (tb_in 234 (by decide +kernel) (by decide +kernel))
theorem ml_X5_64 : ML RX5 64 yX3_readRows := Or.inl (tb_in 245 (by decide +kernel) (by decide +kernel))
theorem ml_X5_67 : ML RX5 67 yX1_followChains := Or.inl (tb_in 374 (by decide +kernel) (by decide +kernel))
theorem ml_X5_70 : ML RX5 70 yX0_learn := Or.inl (tb_in 394 (by decide +kernel) (by decide +kernel))
theorem ml_X5_74 : ML RX5 74 yX5_pictureAt := Or.inl (tb_in 434 (by decide +kernel) (by decide +kernel))
theorem ml_X5_81 : ML RX5 81 yX5_rowAt := Or.inl (tb_in 442 (by decide +kernel) (by decide +kernel))
theorem ml_X6_101 : ML RX6 101 yX6_number := Or.inl (tb_in 724 (by decide +kernel) (by decide +kernel))
theorem ml_X6_105 : ML RX6 105 yX6_heldBy := Or.inl (tb_in 750 (by decide +kernel) (by decide +kernel))
theorem ml_X6_121 : ML RX6 121 yX6_stateOf := Or.inl (tb_in 743 (by decide +kernel) (by decide +kernel))
theorem ml_X6_130 : ML RX6 130 yX6_readLocks := Or.inl (tb_in 746 (by decide +kernel) (by decide +kernel))
theorem ml_X6_133 : ML RX6 133 yX6_readCalls := Or.inl (tb_in 754 (by decide +kernel) (by decide +kernel))
theorem ml_X6_139 : ML RX6 139 yX6_readRow := Or.inl (tb_in 739 (by decide +kernel) (by decide +kernel))
theorem ml_X6_142 : ML RX6 142 yX6_stands := Or.inl (tb_in 758 (by decide +kernel) (by decide +kernel))
theorem ml_X6_145 : ML RX6 145 yX6_isPicture := Or.inl (tb_in 766 (by decide +kernel) (by decide +kernel))
theorem ml_X6_149 : ML RX6 149 yX6_isThere := Or.inl (tb_in 774 (by decide +kernel) (by decide +kernel))
theorem ml_X6_153 : ML RX6 153 yX6_holderOf := Or.inl (tb_in 782 (by decide +kernel) (by decide +kernel))
theorem ml_X6_156 : ML RX6 156 yX6_next := Or.inl (tb_in 798 (by decide +kernel) (by decide +kernel))
theorem ml_X6_159 : ML RX6 159 yX6_back := Or.inl (tb_in 794 (by decide +kernel) (by decide +kernel))
theorem ml_X6_162 : ML RX6 162 yX6_isLowest := Or.inl (tb_in 790 (by decide +kernel) (by decide +kernel))
theorem ml_X6_165 : ML RX6 165 yX6_after := Or.inl (tb_in 806 (by decide +kernel) (by decide +kernel))
theorem ml_X6_169 : ML RX6 169 yX6_comes := Or.inl (tb_in 818 (by decide +kernel) (by decide +kernel))
theorem ml_X6_172 : ML RX6 172 yX6_weightOf := Or.inl (tb_in 826 (by decide +kernel) (by decide +kernel))
theorem ml_X6_175 : ML RX6 175 yX6_areAlike := Or.inl (tb_in 842 (by decide +kernel) (by decide +kernel))
theorem ml_X6_178 : ML RX6 178 yX6_isStuck := Or.inl (tb_in 838 (by decide +kernel) (by decide +kernel))
theorem ml_X6_181 : ML RX6 181 yX6_aheads := Or.inl (tb_in 854 (by decide +kernel) (by decide +kernel))
theorem ml_X6_187 : ML RX6 187 yX6_measures := Or.inl (tb_in 858 (by decide +kernel) (by decide +kernel))
theorem ml_X6_190 : ML RX6 190 yX6_breaks := Or.inl (tb_in 850 (by decide +kernel) (by decide +kernel))
theorem ml_X6_193 : ML RX6 193 yX6_least := Or.inl (tb_in 878 (by decide +kernel) (by decide +kernel))
theorem ml_X6_196 : ML RX6 196 yX6_distanceOf := Or.inl (tb_in 874 (by decide +kernel) (by decide +kernel))
theorem ml_X6_199 : ML RX6 199 yX6_hangs := Or.inl (tb_in 885 (by decide +kernel) (by decide +kernel))
theorem ml_X6_70 : ML RX6 70 yX6_push := Or.inl (tb_in 712 (by decide +kernel) (by decide +kernel))
theorem ml_X6_80 : ML RX6 80 yX6_here := Or.inl (tb_in 720 (by decide +kernel) (by decide +kernel))
theorem ml_X6_84 : ML RX6 84 yX6_lies := Or.inl (tb_in 732 (by decide +kernel) (by decide +kernel))
theorem ml_X6_94 : ML RX6 94 yX6_seesDigit := Or.inl (tb_in 728 (by decide +kernel) (by decide +kernel))
theorem ml_X6_98 : ML RX6 98 yX6_tears := Or.inl (tb_in 735 (by decide +kernel) (by decide +kernel))
theorem my_J9_floorMod_7cf53 : MS yJ9_floorMod_7cf53 cJ9_floorMod_7cf53 3 (some .int) 2 := ⟨tb_in 551 (by decide +kernel) (by decide +kernel), tb_in 59 (by decide +kernel) (by decide +kernel), tb_in 552 (by decide +kernel) (by decide +kernel), by decide +kernel, by decide +kernel, by decide +kernel⟩
theorem my_J9_min_7cf53 : MS yJ9_min_7cf53 cJ9_min_7cf53 2 (some .int) 2 := ⟨tb_in 151 (by decide +kernel) (by decide +kernel), tb_in 59 (by decide +kernel) (by decide +kernel), tb_in 152 (by decide +kernel) (by decide +kernel), by decide +kernel, by decide +kernel, by decide +kernel⟩
theorem my_X0_findRing : MY yX0_findRing RX0 cX0_findRing 3 none 0 := ⟨tb_in 406 (by decide +kernel) (by decide +kernel), tb_in 12 (by decide +kernel) (by decide +kernel), tb_in 57 (by decide +kernel) (by decide +kernel), tb_in 407 (by decide +kernel) (by decide +kernel), rfl, by decide +kernel, by decide +kernel, by decide +kernel⟩
theorem my_X0_keepRing : MY yX0_keepRing RX0 cX0_keepRing 5 none 2 := ⟨tb_in 424 (by decide +kernel) (by decide +kernel), tb_in 16 (by decide +kernel) (by decide +kernel), tb_in 57 (by decide +kernel) (by decide +kernel), tb_in 425 (by decide +kernel) (by decide +kernel), rfl, by decide +kernel, by decide +kernel, by decide +kernel⟩
theorem my_X0_learn : MY yX0_learn RX0 cX0_learn 6 none 1 := ⟨tb_in 395 (by decide +kernel) (by decide +kernel), tb_in 396 (by decide +kernel) (by decide +kernel), tb_in 57 (by decide +kernel) (by decide +kernel), tb_in 397 (by decide +kernel) (by decide +kernel), rfl, by decide +kernel, by decide +kernel, by decide +kernel⟩
theorem my_X0_learnRow : MY yX0_learnRow RX0 cX0_learnRow 3 none 1 := ⟨tb_in 401 (by decide +kernel) (by decide +kernel), tb_in 11 (by decide +kernel) (by decide +kernel), tb_in 57 (by decide +kernel) (by decide +kernel), tb_in 402 (by decide +kernel) (by decide +kernel), rfl, by decide +kernel, by decide +kernel, by decide +kernel⟩
theorem my_X0_lockOfRing : MY yX0_lockOfRing RX0 cX0_lockOfRing 2 (some .int) 1 := ⟨tb_in 535 (by decide +kernel) (by decide +kernel), tb_in 536 (by decide +kernel) (by decide +kernel), tb_in 57 (by decide +kernel) (by decide +kernel), tb_in 537 (by decide +kernel) (by decide +kernel), rfl, by decide +kernel, by decide +kernel, by decide +kernel⟩
theorem my_X0_lowestBehind : MY yX0_lowestBehind RX0 cX0_lowestBehind 4 (some .int) 2 := ⟨tb_in 428 (by decide +kernel) (by decide +kernel), tb_in 17 (by decide +kernel) (by decide +kernel), tb_in 57 (by decide +kernel) (by decide +kernel), tb_in 429 (by decide +kernel) (by decide +kernel), rfl, by decide +kernel, by decide +kernel, by decide +kernel⟩
theorem my_X0_measureWaysBack : MY yX0_measureWaysBack RX0 cX0_measureWaysBack 4 none 1 := ⟨tb_in 410 (by decide +kernel) (by decide +kernel), tb_in 13 (by decide +kernel) (by decide +kernel), tb_in 57 (by decide +kernel) (by decide +kernel), tb_in 411 (by decide +kernel) (by decide +kernel), rfl, by decide +kernel, by decide +kernel, by decide +kernel⟩
theorem my_X0_sizeOfRingFrom : MY yX0_sizeOfRingFrom RX0 cX0_sizeOfRingFrom 4 (some .int) 1 := ⟨tb_in 418 (by decide +kernel) (by decide +kernel), tb_in 15 (by decide +kernel) (by decide +kernel), tb_in 57 (by decide +kernel) (by decide +kernel), tb_in 419 (by decide +kernel) (by decide +kernel), rfl, by decide +kernel, by decide +kernel, by decide +kernel⟩
theorem my_X0_stepBack : MY yX0_stepBack RX0 cX0_stepBack 6 (some .int) 3 := ⟨tb_in 414 (by decide +kernel) (by decide +kernel), tb_in 14 (by decide +kernel) (by decide +kernel), tb_in 57 (by decide +kernel) (by decide +kernel), tb_in 415 (by decide +kernel) (by decide +kernel), rfl, by decide +kernel, by decide +kernel, by decide +kernel⟩
theorem my_X1_awaitedBy : MY yX1_awaitedBy RX1 cX1_awaitedBy 3 (some .int) 1 := ⟨tb_in 389 (by decide +kernel) (by decide +kernel), tb_in 390 (by decide +kernel) (by decide +kernel), tb_in 60 (by decide +kernel) (by decide +kernel), tb_in 391 (by decide +kernel) (by decide +kernel), rfl, by decide +kernel, by decide +kernel, by decide +kernel⟩
theorem my_X1_countHeaps : MY yX1_countHeaps RX1 cX1_countHeaps 5 (some .int) 1 := ⟨tb_in 569 (by decide +kernel) (by decide +kernel), tb_in 570 (by decide +kernel) (by decide +kernel), tb_in 60 (by decide +kernel) (by decide +kernel), tb_in 571 (by decide +kernel) (by decide +kernel), rfl, by decide +kernel, by decide +kernel, by decide +kernel⟩
theorem my_X1_countRings : MY yX1_countRings RX1 cX1_countRings 3 (some .int) 0 := ⟨tb_in 461 (by decide +kernel) (by decide +kernel), tb_in 462 (by decide +kernel) (by decide +kernel), tb_in 60 (by decide +kernel) (by decide +kernel), tb_in 463 (by decide +kernel) (by decide +kernel), rfl, by decide +kernel, by decide +kernel, by decide +kernel⟩
theorem my_X1_countThroughLock : MY yX1_countThroughLock RX1 cX1_countThroughLock 7 (some .int) 1 := ⟨tb_in 502 (by decide +kernel) (by decide +kernel), tb_in 503 (by decide +kernel) (by decide +kernel), tb_in 60 (by decide +kernel) (by decide +kernel), tb_in 504 (by decide +kernel) (by decide +kernel), rfl, by decide +kernel, by decide +kernel, by decide +kernel⟩
theorem my_X1_countThroughThread : MY yX1_countThroughThread RX1 cX1_countThroughThread 4 (some .int) 1 := ⟨tb_in 493 (by decide +kernel) (by decide +kernel), tb_in 494 (by decide +kernel) (by decide +kernel), tb_in 60 (by decide +kernel) (by decide +kernel), tb_in 495 (by decide +kernel) (by decide +kernel), rfl, by decide +kernel, by decide +kernel, by decide +kernel⟩
theorem my_X1_distanceOf : MY yX1_distanceOf RX1 cX1_distanceOf 3 (some .int) 2 := ⟨tb_in 558 (by decide +kernel) (by decide +kernel), tb_in 559 (by decide +kernel) (by decide +kernel), tb_in 60 (by decide +kernel) (by decide +kernel), tb_in 560 (by decide +kernel) (by decide +kernel), rfl, by decide +kernel, by decide +kernel, by decide +kernel⟩
theorem my_X1_followChainOf : MY yX1_followChainOf RX1 cX1_followChainOf 4 none 1 := ⟨tb_in 380 (by decide +kernel) (by decide +kernel), tb_in 10 (by decide +kernel) (by decide +kernel), tb_in 60 (by decide +kernel) (by decide +kernel), tb_in 381 (by decide +kernel) (by decide +kernel), rfl, by decide +kernel, by decide +kernel, by decide +kernel⟩
theorem my_X1_followChains : MY yX1_followChains RX1 cX1_followChains 2 none 0 := ⟨tb_in 375 (by decide +kernel) (by decide +kernel), tb_in 376 (by decide +kernel) (by decide +kernel), tb_in 60 (by decide +kernel) (by decide +kernel), tb_in 377 (by decide +kernel) (by decide +kernel), rfl, by decide +kernel, by decide +kernel, by decide +kernel⟩
theorem my_X1_footOf : MY yX1_footOf RX1 cX1_footOf 6 (some .int) 1 := ⟨tb_in 485 (by decide +kernel) (by decide +kernel), tb_in 486 (by decide +kernel) (by decide +kernel), tb_in 60 (by decide +kernel) (by decide +kernel), tb_in 487 (by decide +kernel) (by decide +kernel), rfl, by decide +kernel, by decide +kernel, by decide +kernel⟩
theorem my_X1_guiltyLock : MY yX1_guiltyLock RX1 cX1_guiltyLock 5 (some .int) 0 := ⟨tb_in 510 (by decide +kernel) (by decide +kernel), tb_in 511 (by decide +kernel) (by decide +kernel), tb_in 60 (by decide +kernel) (by decide +kernel), tb_in 512 (by decide +kernel) (by decide +kernel), rfl, by decide +kernel, by decide +kernel, by decide +kernel⟩
theorem my_X1_heapOf : MY yX1_heapOf RX1 cX1_heapOf 7 (some .int) 2 := ⟨tb_in 573 (by decide +kernel) (by decide +kernel), tb_in 574 (by decide +kernel) (by decide +kernel), tb_in 60 (by decide +kernel) (by decide +kernel), tb_in 575 (by decide +kernel) (by decide +kernel), rfl, by decide +kernel, by decide +kernel, by decide +kernel⟩
theorem my_X1_holderOf : MY yX1_holderOf RX1 cX1_holderOf 2 (some .int) 1 := ⟨tb_in 333 (by decide +kernel) (by decide +kernel), tb_in 334 (by decide +kernel) (by decide +kernel), tb_in 60 (by decide +kernel) (by decide +kernel), tb_in 335 (by decide +kernel) (by decide +kernel), rfl, by decide +kernel, by decide +kernel, by decide +kernel⟩
theorem my_X1_init : Cond.instanceMethod yX1_init ∈ TBG ∧ Cond.initialized yX1_init.cls ∈ TBG ∧ Cond.code yX1_init cX1_init 3 none ∈ TBG ∧ yX1_init.name = "<init>" ∧ yX1_init.cls ≠ "java/lang/invoke/MethodHandle" ∧ yX1_init.cls ≠ "java/lang/invoke/VarHandle" ∧ (parseMethodDescriptor yX1_init.desc).map (fun d => d.parameters.length) = some 1 := ⟨tb_in 186 (by decide +kernel) (by decide +kernel), tb_in 60 (by decide +kernel) (by decide +kernel), tb_in 187 (by decide +kernel) (by decide +kernel), rfl, by decide +kernel, by decide +kernel, by decide +kernel⟩
theorem my_X1_keep : MY yX1_keep RX1 cX1_keep 3 none 1 := ⟨tb_in 357 (by decide +kernel) (by decide +kernel), tb_in 358 (by decide +kernel) (by decide +kernel), tb_in 60 (by decide +kernel) (by decide +kernel), tb_in 359 (by decide +kernel) (by decide +kernel), rfl, by decide +kernel, by decide +kernel, by decide +kernel⟩
theorem my_X1_measureFrom : MY yX1_measureFrom RX1 cX1_measureFrom 7 none 1 := ⟨tb_in 362 (by decide +kernel) (by decide +kernel), tb_in 9 (by decide +kernel) (by decide +kernel), tb_in 60 (by decide +kernel) (by decide +kernel), tb_in 363 (by decide +kernel) (by decide +kernel), rfl, by decide +kernel, by decide +kernel, by decide +kernel⟩
theorem my_X1_neighboursOf : MY yX1_neighboursOf RX1 cX1_neighboursOf 5 (some .int) 2 := ⟨tb_in 582 (by decide +kernel) (by decide +kernel), tb_in 25 (by decide +kernel) (by decide +kernel), tb_in 60 (by decide +kernel) (by decide +kernel), tb_in 583 (by decide +kernel) (by decide +kernel), rfl, by decide +kernel, by decide +kernel, by decide +kernel⟩
theorem my_X1_rowOf : MY yX1_rowOf RX1 cX1_rowOf 2 (some (.object "StuckHands$Row")) 1 := ⟨tb_in 302 (by decide +kernel) (by decide +kernel), tb_in 303 (by decide +kernel) (by decide +kernel), tb_in 60 (by decide +kernel) (by decide +kernel), tb_in 304 (by decide +kernel) (by decide +kernel), rfl, by decide +kernel, by decide +kernel, by decide +kernel⟩
theorem my_X1_sizeOfRingFrom : MY yX1_sizeOfRingFrom RX1 cX1_sizeOfRingFrom 4 (some .int) 1 := ⟨tb_in 466 (by decide +kernel) (by decide +kernel), tb_in 20 (by decide +kernel) (by decide +kernel), tb_in 60 (by decide +kernel) (by decide +kernel), tb_in 467 (by decide +kernel) (by decide +kernel), rfl, by decide +kernel, by decide +kernel, by decide +kernel⟩
theorem my_X1_threadOfRing : MY yX1_threadOfRing RX1 cX1_threadOfRing 6 (some .int) 2 := ⟨tb_in 473 (by decide +kernel) (by decide +kernel), tb_in 474 (by decide +kernel) (by decide +kernel), tb_in 60 (by decide +kernel) (by decide +kernel), tb_in 475 (by decide +kernel) (by decide +kernel), rfl, by decide +kernel, by decide +kernel, by decide +kernel⟩
theorem my_X1_walkFrom : MY yX1_walkFrom RX1 cX1_walkFrom 5 (some .int) 2 := ⟨tb_in 478 (by decide +kernel) (by decide +kernel), tb_in 21 (by decide +kernel) (by decide +kernel), tb_in 60 (by decide +kernel) (by decide +kernel), tb_in 479 (by decide +kernel) (by decide +kernel), rfl, by decide +kernel, by decide +kernel, by decide +kernel⟩
theorem my_X2_addCall : MY yX2_addCall RX2 cX2_addCall 2 none 1 := ⟨tb_in 352 (by decide +kernel) (by decide +kernel), tb_in 353 (by decide +kernel) (by decide +kernel), tb_in 62 (by decide +kernel) (by decide +kernel), tb_in 354 (by decide +kernel) (by decide +kernel), rfl, by decide +kernel, by decide +kernel, by decide +kernel⟩
theorem my_X2_callAt : MY yX2_callAt RX2 cX2_callAt 2 (some .int) 1 := ⟨tb_in 448 (by decide +kernel) (by decide +kernel), tb_in 449 (by decide +kernel) (by decide +kernel), tb_in 62 (by decide +kernel) (by decide +kernel), tb_in 450 (by decide +kernel) (by decide +kernel), rfl, by decide +kernel, by decide +kernel, by decide +kernel⟩
theorem my_X2_distanceTo : MY yX2_distanceTo RX2 cX2_distanceTo 7 (some .int) 2 := ⟨tb_in 365 (by decide +kernel) (by decide +kernel), tb_in 366 (by decide +kernel) (by decide +kernel), tb_in 62 (by decide +kernel) (by decide +kernel), tb_in 367 (by decide +kernel) (by decide +kernel), rfl, by decide +kernel, by decide +kernel, by decide +kernel⟩
theorem my_X2_hasCallsOf : MY yX2_hasCallsOf RX2 cX2_hasCallsOf 3 (some .boolean) 1 := ⟨tb_in 528 (by decide +kernel) (by decide +kernel), tb_in 23 (by decide +kernel) (by decide +kernel), tb_in 62 (by decide +kernel) (by decide +kernel), tb_in 529 (by decide +kernel) (by decide +kernel), rfl, by decide +kernel, by decide +kernel, by decide +kernel⟩
theorem my_X2_holds : MY yX2_holds RX2 cX2_holds 2 (some .boolean) 1 := ⟨tb_in 326 (by decide +kernel) (by decide +kernel), tb_in 327 (by decide +kernel) (by decide +kernel), tb_in 62 (by decide +kernel) (by decide +kernel), tb_in 328 (by decide +kernel) (by decide +kernel), rfl, by decide +kernel, by decide +kernel, by decide +kernel⟩
theorem my_X2_init : Cond.instanceMethod yX2_init ∈ TBG ∧ Cond.initialized yX2_init.cls ∈ TBG ∧ Cond.code yX2_init cX2_init 1 none ∈ TBG ∧ yX2_init.name = "<init>" ∧ yX2_init.cls ≠ "java/lang/invoke/MethodHandle" ∧ yX2_init.cls ≠ "java/lang/invoke/VarHandle" ∧ (parseMethodDescriptor yX2_init.desc).map (fun d => d.parameters.length) = some 0 := ⟨tb_in 253 (by decide +kernel) (by decide +kernel), tb_in 62 (by decide +kernel) (by decide +kernel), tb_in 254 (by decide +kernel) (by decide +kernel), rfl, by decide +kernel, by decide +kernel, by decide +kernel⟩
theorem my_X2_isLike : MY yX2_isLike RX2 cX2_isLike 2 (some .boolean) 1 := ⟨tb_in 523 (by decide +kernel) (by decide +kernel), tb_in 524 (by decide +kernel) (by decide +kernel), tb_in 62 (by decide +kernel) (by decide +kernel), tb_in 525 (by decide +kernel) (by decide +kernel), rfl, by decide +kernel, by decide +kernel, by decide +kernel⟩
theorem my_X2_isWaiting : MY yX2_isWaiting RX2 cX2_isWaiting 1 (some .boolean) 0 := ⟨tb_in 370 (by decide +kernel) (by decide +kernel), tb_in 371 (by decide +kernel) (by decide +kernel), tb_in 62 (by decide +kernel) (by decide +kernel), tb_in 372 (by decide +kernel) (by decide +kernel), rfl, by decide +kernel, by decide +kernel, by decide +kernel⟩
theorem my_X2_waitsAtBit : MY yX2_waitsAtBit RX2 cX2_waitsAtBit 1 (some .int) 0 := ⟨tb_in 384 (by decide +kernel) (by decide +kernel), tb_in 385 (by decide +kernel) (by decide +kernel), tb_in 62 (by decide +kernel) (by decide +kernel), tb_in 386 (by decide +kernel) (by decide +kernel), rfl, by decide +kernel, by decide +kernel, by decide +kernel⟩
theorem my_X3_init : Cond.instanceMethod yX3_init ∈ TBG ∧ Cond.initialized yX3_init.cls ∈ TBG ∧ Cond.code yX3_init cX3_init 3 none ∈ TBG ∧ yX3_init.name = "<init>" ∧ yX3_init.cls ≠ "java/lang/invoke/MethodHandle" ∧ yX3_init.cls ≠ "java/lang/invoke/VarHandle" ∧ (parseMethodDescriptor yX3_init.desc).map (fun d => d.parameters.length) = some 2 := ⟨tb_in 235 (by decide +kernel) (by decide +kernel), tb_in 61 (by decide +kernel) (by decide +kernel), tb_in 236 (by decide +kernel) (by decide +kernel), rfl, by decide +kernel, by decide +kernel, by decide +kernel⟩
theorem my_X3_readCalls : MY yX3_readCalls RX3 cX3_readCalls 3 (some .boolean) 1 := ⟨tb_in 345 (by decide +kernel) (by decide +kernel), tb_in 8 (by decide +kernel) (by decide +kernel), tb_in 61 (by decide +kernel) (by decide +kernel), tb_in 346 (by decide +kernel) (by decide +kernel), rfl, by decide +kernel, by decide +kernel, by decide +kernel⟩
theorem my_X3_readCounter : MY yX3_readCounter RX3 cX3_readCounter 2 (some .boolean) 1 := ⟨tb_in 315 (by decide +kernel) (by decide +kernel), tb_in 4 (by decide +kernel) (by decide +kernel), tb_in 61 (by decide +kernel) (by decide +kernel), tb_in 316 (by decide +kernel) (by decide +kernel), rfl, by decide +kernel, by decide +kernel, by decide +kernel⟩
theorem my_X3_readHeld : MY yX3_readHeld RX3 cX3_readHeld 4 (some .boolean) 1 := ⟨tb_in 319 (by decide +kernel) (by decide +kernel), tb_in 5 (by decide +kernel) (by decide +kernel), tb_in 61 (by decide +kernel) (by decide +kernel), tb_in 320 (by decide +kernel) (by decide +kernel), rfl, by decide +kernel, by decide +kernel, by decide +kernel⟩
theorem my_X3_readHeldLock : MY yX3_readHeldLock RX3 cX3_readHeldLock 4 (some .boolean) 1 := ⟨tb_in 323 (by decide +kernel) (by decide +kernel), tb_in 6 (by decide +kernel) (by decide +kernel), tb_in 61 (by decide +kernel) (by decide +kernel), tb_in 324 (by decide +kernel) (by decide +kernel), rfl, by decide +kernel, by decide +kernel, by decide +kernel⟩
theorem my_X3_readRow : MY yX3_readRow RX3 cX3_readRow 2 (some .boolean) 1 := ⟨tb_in 294 (by decide +kernel) (by decide +kernel), tb_in 1 (by decide +kernel) (by decide +kernel), tb_in 61 (by decide +kernel) (by decide +kernel), tb_in 295 (by decide +kernel) (by decide +kernel), rfl, by decide +kernel, by decide +kernel, by decide +kernel⟩
theorem my_X3_readRows : MY yX3_readRows RX3 cX3_readRows 3 none 0 := ⟨tb_in 246 (by decide +kernel) (by decide +kernel), tb_in 247 (by decide +kernel) (by decide +kernel), tb_in 61 (by decide +kernel) (by decide +kernel), tb_in 248 (by decide +kernel) (by decide +kernel), rfl, by decide +kernel, by decide +kernel, by decide +kernel⟩
theorem my_X3_readState : MY yX3_readState RX3 cX3_readState 2 (some .boolean) 1 := ⟨tb_in 311 (by decide +kernel) (by decide +kernel), tb_in 3 (by decide +kernel) (by decide +kernel), tb_in 61 (by decide +kernel) (by decide +kernel), tb_in 312 (by decide +kernel) (by decide +kernel), rfl, by decide +kernel, by decide +kernel, by decide +kernel⟩
theorem my_X3_readThread : MY yX3_readThread RX3 cX3_readThread 3 (some .boolean) 1 := ⟨tb_in 298 (by decide +kernel) (by decide +kernel), tb_in 2 (by decide +kernel) (by decide +kernel), tb_in 61 (by decide +kernel) (by decide +kernel), tb_in 299 (by decide +kernel) (by decide +kernel), rfl, by decide +kernel, by decide +kernel, by decide +kernel⟩
theorem my_X3_readWait : MY yX3_readWait RX3 cX3_readWait 2 (some .boolean) 1 := ⟨tb_in 341 (by decide +kernel) (by decide +kernel), tb_in 7 (by decide +kernel) (by decide +kernel), tb_in 61 (by decide +kernel) (by decide +kernel), tb_in 342 (by decide +kernel) (by decide +kernel), rfl, by decide +kernel, by decide +kernel, by decide +kernel⟩
theorem my_X4_append : MY yX4_append RX4 cX4_append 3 none 1 := ⟨tb_in 139 (by decide +kernel) (by decide +kernel), tb_in 140 (by decide +kernel) (by decide +kernel), tb_in 56 (by decide +kernel) (by decide +kernel), tb_in 141 (by decide +kernel) (by decide +kernel), rfl, by decide +kernel, by decide +kernel, by decide +kernel⟩
theorem my_X4_isAtEndOfPart : MY yX4_isAtEndOfPart RX4 cX4_isAtEndOfPart 2 (some .boolean) 0 := ⟨tb_in 177 (by decide +kernel) (by decide +kernel), tb_in 178 (by decide +kernel) (by decide +kernel), tb_in 56 (by decide +kernel) (by decide +kernel), tb_in 179 (by decide +kernel) (by decide +kernel), rfl, by decide +kernel, by decide +kernel, by decide +kernel⟩
theorem my_X4_next : MY yX4_next RX4 cX4_next 1 (some .int) 0 := ⟨tb_in 162 (by decide +kernel) (by decide +kernel), tb_in 163 (by decide +kernel) (by decide +kernel), tb_in 56 (by decide +kernel) (by decide +kernel), tb_in 164 (by decide +kernel) (by decide +kernel), rfl, by decide +kernel, by decide +kernel, by decide +kernel⟩
theorem my_X4_openText : MY yX4_openText RX4 cX4_openText 2 none 1 := ⟨tb_in 147 (by decide +kernel) (by decide +kernel), tb_in 148 (by decide +kernel) (by decide +kernel), tb_in 56 (by decide +kernel) (by decide +kernel), tb_in 149 (by decide +kernel) (by decide +kernel), rfl, by decide +kernel, by decide +kernel, by decide +kernel⟩
theorem my_X4_readHead : MY yX4_readHead RX4 cX4_readHead 2 (some .int) 0 := ⟨tb_in 154 (by decide +kernel) (by decide +kernel), tb_in 155 (by decide +kernel) (by decide +kernel), tb_in 56 (by decide +kernel) (by decide +kernel), tb_in 156 (by decide +kernel) (by decide +kernel), rfl, by decide +kernel, by decide +kernel, by decide +kernel⟩
theorem my_X4_take : MY yX4_take RX4 cX4_take 2 (some .boolean) 1 := ⟨tb_in 158 (by decide +kernel) (by decide +kernel), tb_in 159 (by decide +kernel) (by decide +kernel), tb_in 56 (by decide +kernel) (by decide +kernel), tb_in 160 (by decide +kernel) (by decide +kernel), rfl, by decide +kernel, by decide +kernel, by decide +kernel⟩
theorem my_X4_takeNumber : MY yX4_takeNumber RX4 cX4_takeNumber 6 (some .int) 2 := ⟨tb_in 166 (by decide +kernel) (by decide +kernel), tb_in 167 (by decide +kernel) (by decide +kernel), tb_in 56 (by decide +kernel) (by decide +kernel), tb_in 168 (by decide +kernel) (by decide +kernel), rfl, by decide +kernel, by decide +kernel, by decide +kernel⟩
theorem my_X4_tearAt : MY yX4_tearAt RX4 cX4_tearAt 2 (some .int) 1 := ⟨tb_in 173 (by decide +kernel) (by decide +kernel), tb_in 174 (by decide +kernel) (by decide +kernel), tb_in 56 (by decide +kernel) (by decide +kernel), tb_in 175 (by decide +kernel) (by decide +kernel), rfl, by decide +kernel, by decide +kernel, by decide +kernel⟩
theorem my_X5_countAhead : MY yX5_countAhead RX5 cX5_countAhead 7 (some .int) 1 := ⟨tb_in 597 (by decide +kernel) (by decide +kernel), tb_in 26 (by decide +kernel) (by decide +kernel), tb_in 55 (by decide +kernel) (by decide +kernel), tb_in 598 (by decide +kernel) (by decide +kernel), rfl, by decide +kernel, by decide +kernel, by decide +kernel⟩
theorem my_X5_countOfReader : MY yX5_countOfReader RX5 cX5_countOfReader 2 (some .int) 1 := ⟨tb_in 605 (by decide +kernel) (by decide +kernel), tb_in 27 (by decide +kernel) (by decide +kernel), tb_in 55 (by decide +kernel) (by decide +kernel), tb_in 606 (by decide +kernel) (by decide +kernel), rfl, by decide +kernel, by decide +kernel, by decide +kernel⟩
theorem my_X5_hasBit : MS yX5_hasBit cX5_hasBit 2 (some .boolean) 2 := ⟨tb_in 330 (by decide +kernel) (by decide +kernel), tb_in 55 (by decide +kernel) (by decide +kernel), tb_in 331 (by decide +kernel) (by decide +kernel), by decide +kernel, by decide +kernel, by decide +kernel⟩
theorem my_X5_isDigit : MS yX5_isDigit cX5_isDigit 1 (some .boolean) 1 := ⟨tb_in 170 (by decide +kernel) (by decide +kernel), tb_in 55 (by decide +kernel) (by decide +kernel), tb_in 171 (by decide +kernel) (by decide +kernel), by decide +kernel, by decide +kernel, by decide +kernel⟩
theorem my_X5_isHeapWidth : MS yX5_isHeapWidth cX5_isHeapWidth 1 (some .boolean) 1 := ⟨tb_in 566 (by decide +kernel) (by decide +kernel), tb_in 55 (by decide +kernel) (by decide +kernel), tb_in 567 (by decide +kernel) (by decide +kernel), by decide +kernel, by decide +kernel, by decide +kernel⟩
theorem my_X5_isLetter : MS yX5_isLetter cX5_isLetter 1 (some .boolean) 1 := ⟨tb_in 349 (by decide +kernel) (by decide +kernel), tb_in 55 (by decide +kernel) (by decide +kernel), tb_in 350 (by decide +kernel) (by decide +kernel), by decide +kernel, by decide +kernel, by decide +kernel⟩
theorem my_X5_isLock : MS yX5_isLock cX5_isLock 1 (some .boolean) 1 := ⟨tb_in 337 (by decide +kernel) (by decide +kernel), tb_in 55 (by decide +kernel) (by decide +kernel), tb_in 338 (by decide +kernel) (by decide +kernel), by decide +kernel, by decide +kernel, by decide +kernel⟩
theorem my_X5_isStuck : MY yX5_isStuck RX5 cX5_isStuck 6 (some .boolean) 1 := ⟨tb_in 520 (by decide +kernel) (by decide +kernel), tb_in 22 (by decide +kernel) (by decide +kernel), tb_in 55 (by decide +kernel) (by decide +kernel), tb_in 521 (by decide +kernel) (by decide +kernel), rfl, by decide +kernel, by decide +kernel, by decide +kernel⟩
theorem my_X5_isThread : MS yX5_isThread cX5_isThread 1 (some .boolean) 1 := ⟨tb_in 306 (by decide +kernel) (by decide +kernel), tb_in 55 (by decide +kernel) (by decide +kernel), tb_in 307 (by decide +kernel) (by decide +kernel), by decide +kernel, by decide +kernel, by decide +kernel⟩
theorem my_X5_isTickTaken : MY yX5_isTickTaken RX5 cX5_isTickTaken 6 (some .boolean) 1 := ⟨tb_in 182 (by decide +kernel) (by decide +kernel), tb_in 0 (by decide +kernel) (by decide +kernel), tb_in 55 (by decide +kernel) (by decide +kernel), tb_in 183 (by decide +kernel) (by decide +kernel), rfl, by decide +kernel, by decide +kernel, by decide +kernel⟩
theorem my_X5_lowestOf : MS yX5_lowestOf cX5_lowestOf 2 (some .int) 1 := ⟨tb_in 577 (by decide +kernel) (by decide +kernel), tb_in 55 (by decide +kernel) (by decide +kernel), tb_in 578 (by decide +kernel) (by decide +kernel), by decide +kernel, by decide +kernel, by decide +kernel⟩
theorem my_X5_pictureAt : MY yX5_pictureAt RX5 cX5_pictureAt 2 (some (.object "StuckHands$Picture")) 1 := ⟨tb_in 436 (by decide +kernel) (by decide +kernel), tb_in 18 (by decide +kernel) (by decide +kernel), tb_in 55 (by decide +kernel) (by decide +kernel), tb_in 437 (by decide +kernel) (by decide +kernel), rfl, by decide +kernel, by decide +kernel, by decide +kernel⟩
theorem my_X5_rowAt : MY yX5_rowAt RX5 cX5_rowAt 4 (some (.object "StuckHands$Row")) 2 := ⟨tb_in 444 (by decide +kernel) (by decide +kernel), tb_in 19 (by decide +kernel) (by decide +kernel), tb_in 55 (by decide +kernel) (by decide +kernel), tb_in 445 (by decide +kernel) (by decide +kernel), rfl, by decide +kernel, by decide +kernel, by decide +kernel⟩
theorem my_X5_workBetween : MY yX5_workBetween RX5 cX5_workBetween 10 (some .int) 4 := ⟨tb_in 548 (by decide +kernel) (by decide +kernel), tb_in 24 (by decide +kernel) (by decide +kernel), tb_in 55 (by decide +kernel) (by decide +kernel), tb_in 549 (by decide +kernel) (by decide +kernel), rfl, by decide +kernel, by decide +kernel, by decide +kernel⟩
theorem my_X6_after : MY yX6_after RX6 cX6_after 6 (some .int) 3 := ⟨tb_in 808 (by decide +kernel) (by decide +kernel), tb_in 44 (by decide +kernel) (by decide +kernel), tb_in 58 (by decide +kernel) (by decide +kernel), tb_in 809 (by decide +kernel) (by decide +kernel), rfl, by decide +kernel, by decide +kernel, by decide +kernel⟩
theorem my_X6_aheads : MY yX6_aheads RX6 cX6_aheads 3 none 0 := ⟨tb_in 856 (by decide +kernel) (by decide +kernel), tb_in 50 (by decide +kernel) (by decide +kernel), tb_in 58 (by decide +kernel) (by decide +kernel), tb_in 857 (by decide +kernel) (by decide +kernel), rfl, by decide +kernel, by decide +kernel, by decide +kernel⟩
theorem my_X6_areAlike : MY yX6_areAlike RX6 cX6_areAlike 4 (some .boolean) 2 := ⟨tb_in 844 (by decide +kernel) (by decide +kernel), tb_in 48 (by decide +kernel) (by decide +kernel), tb_in 58 (by decide +kernel) (by decide +kernel), tb_in 845 (by decide +kernel) (by decide +kernel), rfl, by decide +kernel, by decide +kernel, by decide +kernel⟩
theorem my_X6_back : MY yX6_back RX6 cX6_back 5 (some .int) 2 := ⟨tb_in 796 (by decide +kernel) (by decide +kernel), tb_in 42 (by decide +kernel) (by decide +kernel), tb_in 58 (by decide +kernel) (by decide +kernel), tb_in 797 (by decide +kernel) (by decide +kernel), rfl, by decide +kernel, by decide +kernel, by decide +kernel⟩
theorem my_X6_breaks : MY yX6_breaks RX6 cX6_breaks 7 none 0 := ⟨tb_in 852 (by decide +kernel) (by decide +kernel), tb_in 49 (by decide +kernel) (by decide +kernel), tb_in 58 (by decide +kernel) (by decide +kernel), tb_in 853 (by decide +kernel) (by decide +kernel), rfl, by decide +kernel, by decide +kernel, by decide +kernel⟩
theorem my_X6_comes : MY yX6_comes RX6 cX6_comes 6 (some .boolean) 3 := ⟨tb_in 820 (by decide +kernel) (by decide +kernel), tb_in 45 (by decide +kernel) (by decide +kernel), tb_in 58 (by decide +kernel) (by decide +kernel), tb_in 821 (by decide +kernel) (by decide +kernel), rfl, by decide +kernel, by decide +kernel, by decide +kernel⟩
theorem my_X6_distanceOf : MY yX6_distanceOf RX6 cX6_distanceOf 7 (some .int) 2 := ⟨tb_in 876 (by decide +kernel) (by decide +kernel), tb_in 52 (by decide +kernel) (by decide +kernel), tb_in 58 (by decide +kernel) (by decide +kernel), tb_in 877 (by decide +kernel) (by decide +kernel), rfl, by decide +kernel, by decide +kernel, by decide +kernel⟩
theorem my_X6_hangs : MY yX6_hangs RX6 cX6_hangs 6 none 2 := ⟨tb_in 887 (by decide +kernel) (by decide +kernel), tb_in 53 (by decide +kernel) (by decide +kernel), tb_in 58 (by decide +kernel) (by decide +kernel), tb_in 888 (by decide +kernel) (by decide +kernel), rfl, by decide +kernel, by decide +kernel, by decide +kernel⟩
theorem my_X6_heldBy : MY yX6_heldBy RX6 cX6_heldBy 4 (some .int) 1 := ⟨tb_in 752 (by decide +kernel) (by decide +kernel), tb_in 35 (by decide +kernel) (by decide +kernel), tb_in 58 (by decide +kernel) (by decide +kernel), tb_in 753 (by decide +kernel) (by decide +kernel), rfl, by decide +kernel, by decide +kernel, by decide +kernel⟩
theorem my_X6_here : MY yX6_here RX6 cX6_here 1 (some .int) 0 := ⟨tb_in 722 (by decide +kernel) (by decide +kernel), tb_in 29 (by decide +kernel) (by decide +kernel), tb_in 58 (by decide +kernel) (by decide +kernel), tb_in 723 (by decide +kernel) (by decide +kernel), rfl, by decide +kernel, by decide +kernel, by decide +kernel⟩
theorem my_X6_holderOf : MY yX6_holderOf RX6 cX6_holderOf 4 (some .int) 2 := ⟨tb_in 784 (by decide +kernel) (by decide +kernel), tb_in 40 (by decide +kernel) (by decide +kernel), tb_in 58 (by decide +kernel) (by decide +kernel), tb_in 785 (by decide +kernel) (by decide +kernel), rfl, by decide +kernel, by decide +kernel, by decide +kernel⟩
theorem my_X6_isLowest : MY yX6_isLowest RX6 cX6_isLowest 6 (some .boolean) 2 := ⟨tb_in 792 (by decide +kernel) (by decide +kernel), tb_in 41 (by decide +kernel) (by decide +kernel), tb_in 58 (by decide +kernel) (by decide +kernel), tb_in 793 (by decide +kernel) (by decide +kernel), rfl, by decide +kernel, by decide +kernel, by decide +kernel⟩
theorem my_X6_isPicture : MY yX6_isPicture RX6 cX6_isPicture 2 (some .boolean) 1 := ⟨tb_in 768 (by decide +kernel) (by decide +kernel), tb_in 38 (by decide +kernel) (by decide +kernel), tb_in 58 (by decide +kernel) (by decide +kernel), tb_in 769 (by decide +kernel) (by decide +kernel), rfl, by decide +kernel, by decide +kernel, by decide +kernel⟩
theorem my_X6_isStuck : MY yX6_isStuck RX6 cX6_isStuck 6 (some .boolean) 1 := ⟨tb_in 840 (by decide +kernel) (by decide +kernel), tb_in 47 (by decide +kernel) (by decide +kernel), tb_in 58 (by decide +kernel) (by decide +kernel), tb_in 841 (by decide +kernel) (by decide +kernel), rfl, by decide +kernel, by decide +kernel, by decide +kernel⟩
theorem my_X6_isThere : MY yX6_isThere RX6 cX6_isThere 3 (some .boolean) 2 := ⟨tb_in 776 (by decide +kernel) (by decide +kernel), tb_in 39 (by decide +kernel) (by decide +kernel), tb_in 58 (by decide +kernel) (by decide +kernel), tb_in 777 (by decide +kernel) (by decide +kernel), rfl, by decide +kernel, by decide +kernel, by decide +kernel⟩
theorem my_X6_least : MS yX6_least cX6_least 2 (some .int) 2 := ⟨tb_in 879 (by decide +kernel) (by decide +kernel), tb_in 58 (by decide +kernel) (by decide +kernel), tb_in 880 (by decide +kernel) (by decide +kernel), by decide +kernel, by decide +kernel, by decide +kernel⟩
theorem my_X6_lies : MS yX6_lies cX6_lies 3 (some .boolean) 3 := ⟨tb_in 733 (by decide +kernel) (by decide +kernel), tb_in 58 (by decide +kernel) (by decide +kernel), tb_in 734 (by decide +kernel) (by decide +kernel), by decide +kernel, by decide +kernel, by decide +kernel⟩
theorem my_X6_measures : MY yX6_measures RX6 cX6_measures 7 (some .int) 1 := ⟨tb_in 860 (by decide +kernel) (by decide +kernel), tb_in 51 (by decide +kernel) (by decide +kernel), tb_in 58 (by decide +kernel) (by decide +kernel), tb_in 861 (by decide +kernel) (by decide +kernel), rfl, by decide +kernel, by decide +kernel, by decide +kernel⟩
theorem my_X6_next : MY yX6_next RX6 cX6_next 3 (some .int) 2 := ⟨tb_in 800 (by decide +kernel) (by decide +kernel), tb_in 43 (by decide +kernel) (by decide +kernel), tb_in 58 (by decide +kernel) (by decide +kernel), tb_in 801 (by decide +kernel) (by decide +kernel), rfl, by decide +kernel, by decide +kernel, by decide +kernel⟩
theorem my_X6_number : MY yX6_number RX6 cX6_number 4 (some .int) 2 := ⟨tb_in 726 (by decide +kernel) (by decide +kernel), tb_in 30 (by decide +kernel) (by decide +kernel), tb_in 58 (by decide +kernel) (by decide +kernel), tb_in 727 (by decide +kernel) (by decide +kernel), rfl, by decide +kernel, by decide +kernel, by decide +kernel⟩
theorem my_X6_push : MY yX6_push RX6 cX6_push 3 none 1 := ⟨tb_in 714 (by decide +kernel) (by decide +kernel), tb_in 28 (by decide +kernel) (by decide +kernel), tb_in 58 (by decide +kernel) (by decide +kernel), tb_in 715 (by decide +kernel) (by decide +kernel), rfl, by decide +kernel, by decide +kernel, by decide +kernel⟩
theorem my_X6_readCalls : MY yX6_readCalls RX6 cX6_readCalls 1 none 0 := ⟨tb_in 756 (by decide +kernel) (by decide +kernel), tb_in 36 (by decide +kernel) (by decide +kernel), tb_in 58 (by decide +kernel) (by decide +kernel), tb_in 757 (by decide +kernel) (by decide +kernel), rfl, by decide +kernel, by decide +kernel, by decide +kernel⟩
theorem my_X6_readLocks : MY yX6_readLocks RX6 cX6_readLocks 5 none 1 := ⟨tb_in 748 (by decide +kernel) (by decide +kernel), tb_in 34 (by decide +kernel) (by decide +kernel), tb_in 58 (by decide +kernel) (by decide +kernel), tb_in 749 (by decide +kernel) (by decide +kernel), rfl, by decide +kernel, by decide +kernel, by decide +kernel⟩
theorem my_X6_readRow : MY yX6_readRow RX6 cX6_readRow 3 none 1 := ⟨tb_in 741 (by decide +kernel) (by decide +kernel), tb_in 33 (by decide +kernel) (by decide +kernel), tb_in 58 (by decide +kernel) (by decide +kernel), tb_in 742 (by decide +kernel) (by decide +kernel), rfl, by decide +kernel, by decide +kernel, by decide +kernel⟩
theorem my_X6_seesDigit : MY yX6_seesDigit RX6 cX6_seesDigit 1 (some .boolean) 0 := ⟨tb_in 730 (by decide +kernel) (by decide +kernel), tb_in 31 (by decide +kernel) (by decide +kernel), tb_in 58 (by decide +kernel) (by decide +kernel), tb_in 731 (by decide +kernel) (by decide +kernel), rfl, by decide +kernel, by decide +kernel, by decide +kernel⟩
theorem my_X6_stands : MY yX6_stands RX6 cX6_stands 4 none 1 := ⟨tb_in 760 (by decide +kernel) (by decide +kernel), tb_in 37 (by decide +kernel) (by decide +kernel), tb_in 58 (by decide +kernel) (by decide +kernel), tb_in 761 (by decide +kernel) (by decide +kernel), rfl, by decide +kernel, by decide +kernel, by decide +kernel⟩
theorem my_X6_stateOf : MS yX6_stateOf cX6_stateOf 1 (some .int) 1 := ⟨tb_in 744 (by decide +kernel) (by decide +kernel), tb_in 58 (by decide +kernel) (by decide +kernel), tb_in 745 (by decide +kernel) (by decide +kernel), by decide +kernel, by decide +kernel, by decide +kernel⟩
theorem my_X6_tears : MY yX6_tears RX6 cX6_tears 2 none 1 := ⟨tb_in 737 (by decide +kernel) (by decide +kernel), tb_in 32 (by decide +kernel) (by decide +kernel), tb_in 58 (by decide +kernel) (by decide +kernel), tb_in 738 (by decide +kernel) (by decide +kernel), rfl, by decide +kernel, by decide +kernel, by decide +kernel⟩
theorem my_X6_weightOf : MY yX6_weightOf RX6 cX6_weightOf 8 (some .int) 2 := ⟨tb_in 828 (by decide +kernel) (by decide +kernel), tb_in 46 (by decide +kernel) (by decide +kernel), tb_in 58 (by decide +kernel) (by decide +kernel), tb_in 829 (by decide +kernel) (by decide +kernel), rfl, by decide +kernel, by decide +kernel, by decide +kernel⟩
theorem nw_X3_25 : Cond.classLink RX3 25 (RR 2) ∈ TBG ∧ Cond.instantiable (RR 2) (nF 2) ∈ TBG ∧ Cond.initialized (RR 2) ∈ TBG := ⟨tb_in 250 (by decide +kernel) (by decide +kernel), tb_in 251 (by decide +kernel) (by decide +kernel), tb_in 62 (by decide +kernel) (by decide +kernel)⟩
theorem nw_X5_16 : Cond.classLink RX5 16 (RR 1) ∈ TBG ∧ Cond.instantiable (RR 1) (nF 1) ∈ TBG ∧ Cond.initialized (RR 1) ∈ TBG := ⟨tb_in 93 (by decide +kernel) (by decide +kernel), tb_in 184 (by decide +kernel) (by decide +kernel), tb_in 60 (by decide +kernel) (by decide +kernel)⟩
theorem nw_X5_59 : Cond.classLink RX5 59 (RR 3) ∈ TBG ∧ Cond.instantiable (RR 3) (nF 3) ∈ TBG ∧ Cond.initialized (RR 3) ∈ TBG := ⟨tb_in 232 (by decide +kernel) (by decide +kernel), tb_in 233 (by decide +kernel) (by decide +kernel), tb_in 61 (by decide +kernel) (by decide +kernel)⟩
