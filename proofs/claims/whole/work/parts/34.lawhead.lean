def R_law : String := "StuckHandsLaw"
def lw_P (b : Addr) (xs : List Int32) (args : Array Value) (s : State) : Prop := args = #[.ref b] ∧ s.IntsAt b xs ∧ xs.length ≤ 3072 ∧ (Jvm.Cond.and given_1 narrow_1).before args s = true
def lw_Q (_ : Array Value) (s : State) (o : Outcome) (t : State) : Prop := o = .returned (some (.int 1)) ∧ Framed s o t [] 600000 7302250
def lw_Z (below : List Frame) (a : Array Value) (s : State) : State → Prop := fun t => ∃ o, t.status = .running ∧ Ended t below o ∧ lw_Q a s o t
/-- the law's own end, with 1 on the stack, nothing written that was there before, its room as the claim has it -/
theorem lw_ret {p : Program} {l : Launch} {e : Env} {s : State} {m : MethodId} {below : List Frame} {meth : Method} {c : Code} {b : Nat} (hx : p.tables.exec = Jvm.exec) (hb : c.code = code) (hr : meth.sig.returnType = ret) (hlocks : meth.locks = false) {pc : Nat} {H : Heap} {ls : Array Slot} (hdg : decode code pc = .ok (.ireturn, 1)) : W p l e room_1 s m #[Value.ref b] below meth c H [] 600000 7302250 (lw_Z below #[Value.ref b] s) (F0 m pc ls [.int 1]) := by
  intro T hT X
  obtain ⟨fs, hret, hrun, hended, hW, hframe⟩ := X.leave (v := some (.int 1)) (hlocks := hlocks) (fun h => by rw [hr] at h; cases h)
  have hmeth' : T.vm.method? m = some meth := X.method'
  refine ⟨T.setFrames fs, ?_, .returned (some (.int 1)), hrun, hended, rfl, ⟨_, rfl⟩, hW, hframe⟩
  jvm_step X.here [X.here.top, hx, hb, hdg, hmeth', hr, ret, narrow_b1]
  (try refine ⟨rfl, ?_⟩); (try refine ⟨rfl, ?_⟩)
  first | (intro acts; rw [hret _ acts rfl rfl rfl]) | rw [hret _ _ rfl rfl rfl]
  exact Steps.refl _
/-- what holds at the law's entry: the machine, the code, the tables' words (any of lw_tbl by 'hts w (by decide +kernel)'), the script of L ints xs at the cell b, what the Statement gives of the start (any of its parts by flat_of_before) -/
def lw_At (p : Program) (s : State) (m : MethodId) (meth : Method) (c : Code) (b L : Nat) (xs : Nat → Int32) : Prop :=
  p.tables.exec = Jvm.exec ∧ c.code = code ∧ meth.sig.returnType = ret ∧ c.maxLocals = 4 ∧ s.vm.findClass R_law = some m.cls ∧ (∀ w ∈ lw_tbl, w.before #[Value.ref b] s = true) ∧ va_X b L xs s s.heap ∧ b < s.heap.size ∧ meth.locks = false ∧ (Jvm.Cond.and given_1 narrow_1).before #[Value.ref b] s = true
def LX (x : CT) (b n : Nat) (xs : Nat → Int32) : Prop := match x with
  | (_, _, _, _, s, _, _, _, _, _, _, _, A, _) => va_X b n xs s s.heap ∧ b < s.heap.size ∧ ¬ A b
def RLw (x : CT) (b : Nat) : Prop := match x with
  | (_, _, _, _, s, _, args, below, _, _, Q, _, A, _) => Q = lw_Z below #[Value.ref b] s ∧ args = #[Value.ref b] ∧ A = fun q => s.heap.size ≤ q
section ZLW
variable {x : CT} {cc : ByteArray} {own : String} {rm : Room} {rt : Option FieldType} {pc pc' : Nat} {L : List (Option Value)} {st : List Value} {P : GT → Nat → Prop} {cs ss b n : Nat} {xs : Nat → Int32} {i : Int32}
theorem v_sld (hx : CX x cc own rm rt) (hX : LX x b n xs) (hin : ix i n = true) (d : decode cc pc = .ok (.iaload, 1)) (hp : pc + 1 = pc') (k : V x pc' L (.int (xs i.toNatClampNeg) :: st) P cs ss) : V x pc L (.int i :: .ref b :: st) P cs ss := by
  obtain ⟨p, l, e, R, s, m, args, below, meth, c, Q, D, A, nL⟩ := x
  obtain ⟨hx, hb, hml, hown, hts, hK, hA, hlk, hr, hR⟩ := hx
  subst hp
  intro G sz H locs ls a1 a2 a3 a4 a5 a6
  exact va_sld hx hb hX.1 hX.2.1 hX.2.2 a5 (ix_in hin) d (k G sz H locs ls a1 a2 a3 a4 a5 a6)
theorem v_slen (hx : CX x cc own rm rt) (hX : LX x b n xs) (d : decode cc pc = .ok (.arraylength, 1)) (hp : pc + 1 = pc') (k : V x pc' L (.int (Int32.ofNat n) :: st) P cs ss) : V x pc L (.ref b :: st) P cs ss := by
  obtain ⟨p, l, e, R, s, m, args, below, meth, c, Q, D, A, nL⟩ := x
  obtain ⟨hx, hb, hml, hown, hts, hK, hA, hlk, hr, hR⟩ := hx
  subst hp
  intro G sz H locs ls a1 a2 a3 a4 a5 a6
  exact va_slen hx hb hX.1 hX.2.1 hX.2.2 a5 d (k G sz H locs ls a1 a2 a3 a4 a5 a6)
theorem v_lret (hx : CX x code own room_1 (some .boolean)) (hq : RLw x b) (h1 : cs ≤ 600000) (h2 : ss ≤ 7302250) (d : decode code pc = .ok (.ireturn, 1)) : V x pc L [.int 1] P cs ss := by
  obtain ⟨p, l, e, R, s, m, args, below, meth, c, Q, D, A, nL⟩ := x
  obtain ⟨hx, hb, hml, hown, hts, hK, hA, hlk, hr, rfl⟩ := hx
  obtain ⟨rfl, rfl, rfl⟩ := hq
  intro G sz H locs ls a1 a2 a3 a4 a5 a6
  refine va_forget (fun q hq => a5.2.2 q hq) ?_
  refine W.widen h1 h2 ?_
  exact lw_ret hx hb hr hlk d
end ZLW
theorem ml_L_12 : ML RL 12 yX6_init := Or.inl (tb_in 609 (by decide +kernel) (by decide +kernel))
theorem ml_L_13 : ML RL 13 yX5_feed := Or.inl (tb_in 134 (by decide +kernel) (by decide +kernel))
theorem ml_L_17 : ML RL 17 yX6_feed := Or.inl (tb_in 708 (by decide +kernel) (by decide +kernel))
theorem ml_L_18 : ML RL 18 yX5_picture := Or.inl (tb_in 142 (by decide +kernel) (by decide +kernel))
theorem ml_L_22 : ML RL 22 yX6_picture := Or.inl (tb_in 716 (by decide +kernel) (by decide +kernel))
theorem ml_L_23 : ML RL 23 yX5_torn := Or.inl (tb_in 430 (by decide +kernel) (by decide +kernel))
theorem ml_L_26 : ML RL 26 yX6_torn := Or.inl (tb_in 762 (by decide +kernel) (by decide +kernel))
theorem ml_L_27 : ML RL 27 yX5_look := Or.inl (tb_in 438 (by decide +kernel) (by decide +kernel))
theorem ml_L_31 : ML RL 31 yX6_look := Or.inl (tb_in 770 (by decide +kernel) (by decide +kernel))
theorem ml_L_32 : ML RL 32 yX5_holder := Or.inl (tb_in 451 (by decide +kernel) (by decide +kernel))
theorem ml_L_36 : ML RL 36 yX6_holder := Or.inl (tb_in 778 (by decide +kernel) (by decide +kernel))
theorem ml_L_37 : ML RL 37 yX5_rings := Or.inl (tb_in 456 (by decide +kernel) (by decide +kernel))
theorem ml_L_40 : ML RL 40 yX6_rings := Or.inl (tb_in 786 (by decide +kernel) (by decide +kernel))
theorem ml_L_41 : ML RL 41 yX5_ring := Or.inl (tb_in 468 (by decide +kernel) (by decide +kernel))
theorem ml_L_44 : ML RL 44 yX6_ring := Or.inl (tb_in 802 (by decide +kernel) (by decide +kernel))
theorem ml_L_45 : ML RL 45 yX5_foot := Or.inl (tb_in 480 (by decide +kernel) (by decide +kernel))
theorem ml_L_48 : ML RL 48 yX6_foot := Or.inl (tb_in 810 (by decide +kernel) (by decide +kernel))
theorem ml_L_49 : ML RL 49 yX5_through := Or.inl (tb_in 488 (by decide +kernel) (by decide +kernel))
theorem ml_L_52 : ML RL 52 yX6_through := Or.inl (tb_in 814 (by decide +kernel) (by decide +kernel))
theorem ml_L_53 : ML RL 53 yX5_weight := Or.inl (tb_in 496 (by decide +kernel) (by decide +kernel))
theorem ml_L_56 : ML RL 56 yX6_weight := Or.inl (tb_in 822 (by decide +kernel) (by decide +kernel))
theorem ml_L_57 : ML RL 57 yX5_guilty := Or.inl (tb_in 505 (by decide +kernel) (by decide +kernel))
theorem ml_L_60 : ML RL 60 yX6_guilty := Or.inl (tb_in 830 (by decide +kernel) (by decide +kernel))
theorem ml_L_61 : ML RL 61 yX5_stuck := Or.inl (tb_in 514 (by decide +kernel) (by decide +kernel))
theorem ml_L_64 : ML RL 64 yX6_stuck := Or.inl (tb_in 834 (by decide +kernel) (by decide +kernel))
theorem ml_L_65 : ML RL 65 yX5_broken := Or.inl (tb_in 530 (by decide +kernel) (by decide +kernel))
theorem ml_L_68 : ML RL 68 yX6_broken := Or.inl (tb_in 846 (by decide +kernel) (by decide +kernel))
theorem ml_L_69 : ML RL 69 yX5_meter := Or.inl (tb_in 538 (by decide +kernel) (by decide +kernel))
theorem ml_L_73 : ML RL 73 yX6_meter := Or.inl (tb_in 862 (by decide +kernel) (by decide +kernel))
theorem ml_L_74 : ML RL 74 yX5_work := Or.inl (tb_in 542 (by decide +kernel) (by decide +kernel))
theorem ml_L_78 : ML RL 78 yX6_work := Or.inl (tb_in 866 (by decide +kernel) (by decide +kernel))
theorem ml_L_79 : ML RL 79 yX5_distance := Or.inl (tb_in 553 (by decide +kernel) (by decide +kernel))
theorem ml_L_82 : ML RL 82 yX6_distance := Or.inl (tb_in 870 (by decide +kernel) (by decide +kernel))
theorem ml_L_83 : ML RL 83 yX5_heaps := Or.inl (tb_in 561 (by decide +kernel) (by decide +kernel))
theorem ml_L_86 : ML RL 86 yX6_heaps := Or.inl (tb_in 881 (by decide +kernel) (by decide +kernel))
theorem ml_L_87 : ML RL 87 yX5_heap := Or.inl (tb_in 585 (by decide +kernel) (by decide +kernel))
theorem ml_L_9 : ML RL 9 yX5_init := Or.inl (tb_in 65 (by decide +kernel) (by decide +kernel))
theorem ml_L_90 : ML RL 90 yX6_heap := Or.inl (tb_in 889 (by decide +kernel) (by decide +kernel))
theorem ml_L_91 : ML RL 91 yX5_order := Or.inl (tb_in 591 (by decide +kernel) (by decide +kernel))
theorem ml_L_94 : ML RL 94 yX6_order := Or.inl (tb_in 893 (by decide +kernel) (by decide +kernel))
theorem ml_L_95 : ML RL 95 yX5_count := Or.inl (tb_in 599 (by decide +kernel) (by decide +kernel))
theorem ml_L_98 : ML RL 98 yX6_count := Or.inl (tb_in 897 (by decide +kernel) (by decide +kernel))
theorem my_X5_broken : MY yX5_broken RX5 cX5_broken 2 (some .int) 1 := ⟨tb_in 531 (by decide +kernel) (by decide +kernel), tb_in 532 (by decide +kernel) (by decide +kernel), tb_in 55 (by decide +kernel) (by decide +kernel), tb_in 533 (by decide +kernel) (by decide +kernel), rfl, by decide +kernel, by decide +kernel, by decide +kernel⟩
theorem my_X5_count : MY yX5_count RX5 cX5_count 4 (some .int) 2 := ⟨tb_in 600 (by decide +kernel) (by decide +kernel), tb_in 601 (by decide +kernel) (by decide +kernel), tb_in 55 (by decide +kernel) (by decide +kernel), tb_in 602 (by decide +kernel) (by decide +kernel), rfl, by decide +kernel, by decide +kernel, by decide +kernel⟩
theorem my_X5_distance : MY yX5_distance RX5 cX5_distance 5 (some .int) 3 := ⟨tb_in 554 (by decide +kernel) (by decide +kernel), tb_in 555 (by decide +kernel) (by decide +kernel), tb_in 55 (by decide +kernel) (by decide +kernel), tb_in 556 (by decide +kernel) (by decide +kernel), rfl, by decide +kernel, by decide +kernel, by decide +kernel⟩
theorem my_X5_feed : MY yX5_feed RX5 cX5_feed 6 (some .int) 5 := ⟨tb_in 135 (by decide +kernel) (by decide +kernel), tb_in 136 (by decide +kernel) (by decide +kernel), tb_in 55 (by decide +kernel) (by decide +kernel), tb_in 137 (by decide +kernel) (by decide +kernel), rfl, by decide +kernel, by decide +kernel, by decide +kernel⟩
theorem my_X5_foot : MY yX5_foot RX5 cX5_foot 4 (some .int) 2 := ⟨tb_in 481 (by decide +kernel) (by decide +kernel), tb_in 482 (by decide +kernel) (by decide +kernel), tb_in 55 (by decide +kernel) (by decide +kernel), tb_in 483 (by decide +kernel) (by decide +kernel), rfl, by decide +kernel, by decide +kernel, by decide +kernel⟩
theorem my_X5_guilty : MY yX5_guilty RX5 cX5_guilty 3 (some .int) 1 := ⟨tb_in 506 (by decide +kernel) (by decide +kernel), tb_in 507 (by decide +kernel) (by decide +kernel), tb_in 55 (by decide +kernel) (by decide +kernel), tb_in 508 (by decide +kernel) (by decide +kernel), rfl, by decide +kernel, by decide +kernel, by decide +kernel⟩
theorem my_X5_heap : MY yX5_heap RX5 cX5_heap 5 (some .int) 3 := ⟨tb_in 586 (by decide +kernel) (by decide +kernel), tb_in 587 (by decide +kernel) (by decide +kernel), tb_in 55 (by decide +kernel) (by decide +kernel), tb_in 588 (by decide +kernel) (by decide +kernel), rfl, by decide +kernel, by decide +kernel, by decide +kernel⟩
theorem my_X5_heaps : MY yX5_heaps RX5 cX5_heaps 4 (some .int) 2 := ⟨tb_in 562 (by decide +kernel) (by decide +kernel), tb_in 563 (by decide +kernel) (by decide +kernel), tb_in 55 (by decide +kernel) (by decide +kernel), tb_in 564 (by decide +kernel) (by decide +kernel), rfl, by decide +kernel, by decide +kernel, by decide +kernel⟩
theorem my_X5_holder : MY yX5_holder RX5 cX5_holder 4 (some .int) 2 := ⟨tb_in 452 (by decide +kernel) (by decide +kernel), tb_in 453 (by decide +kernel) (by decide +kernel), tb_in 55 (by decide +kernel) (by decide +kernel), tb_in 454 (by decide +kernel) (by decide +kernel), rfl, by decide +kernel, by decide +kernel, by decide +kernel⟩
theorem my_X5_init : Cond.instanceMethod yX5_init ∈ TBG ∧ Cond.initialized yX5_init.cls ∈ TBG ∧ Cond.code yX5_init cX5_init 1 none ∈ TBG ∧ yX5_init.name = "<init>" ∧ yX5_init.cls ≠ "java/lang/invoke/MethodHandle" ∧ yX5_init.cls ≠ "java/lang/invoke/VarHandle" ∧ (parseMethodDescriptor yX5_init.desc).map (fun d => d.parameters.length) = some 0 := ⟨tb_in 66 (by decide +kernel) (by decide +kernel), tb_in 55 (by decide +kernel) (by decide +kernel), tb_in 67 (by decide +kernel) (by decide +kernel), rfl, by decide +kernel, by decide +kernel, by decide +kernel⟩
theorem my_X5_look : MY yX5_look RX5 cX5_look 5 (some .int) 3 := ⟨tb_in 439 (by decide +kernel) (by decide +kernel), tb_in 440 (by decide +kernel) (by decide +kernel), tb_in 55 (by decide +kernel) (by decide +kernel), tb_in 441 (by decide +kernel) (by decide +kernel), rfl, by decide +kernel, by decide +kernel, by decide +kernel⟩
theorem my_X5_meter : MY yX5_meter RX5 cX5_meter 3 (some .boolean) 2 := ⟨tb_in 539 (by decide +kernel) (by decide +kernel), tb_in 540 (by decide +kernel) (by decide +kernel), tb_in 55 (by decide +kernel) (by decide +kernel), tb_in 541 (by decide +kernel) (by decide +kernel), rfl, by decide +kernel, by decide +kernel, by decide +kernel⟩
theorem my_X5_order : MY yX5_order RX5 cX5_order 4 (some .int) 1 := ⟨tb_in 592 (by decide +kernel) (by decide +kernel), tb_in 593 (by decide +kernel) (by decide +kernel), tb_in 55 (by decide +kernel) (by decide +kernel), tb_in 594 (by decide +kernel) (by decide +kernel), rfl, by decide +kernel, by decide +kernel, by decide +kernel⟩
theorem my_X5_picture : MY yX5_picture RX5 cX5_picture 4 (some .int) 1 := ⟨tb_in 143 (by decide +kernel) (by decide +kernel), tb_in 144 (by decide +kernel) (by decide +kernel), tb_in 55 (by decide +kernel) (by decide +kernel), tb_in 145 (by decide +kernel) (by decide +kernel), rfl, by decide +kernel, by decide +kernel, by decide +kernel⟩
theorem my_X5_ring : MY yX5_ring RX5 cX5_ring 5 (some .int) 3 := ⟨tb_in 469 (by decide +kernel) (by decide +kernel), tb_in 470 (by decide +kernel) (by decide +kernel), tb_in 55 (by decide +kernel) (by decide +kernel), tb_in 471 (by decide +kernel) (by decide +kernel), rfl, by decide +kernel, by decide +kernel, by decide +kernel⟩
theorem my_X5_rings : MY yX5_rings RX5 cX5_rings 3 (some .int) 1 := ⟨tb_in 457 (by decide +kernel) (by decide +kernel), tb_in 458 (by decide +kernel) (by decide +kernel), tb_in 55 (by decide +kernel) (by decide +kernel), tb_in 459 (by decide +kernel) (by decide +kernel), rfl, by decide +kernel, by decide +kernel, by decide +kernel⟩
theorem my_X5_stuck : MY yX5_stuck RX5 cX5_stuck 4 (some .int) 1 := ⟨tb_in 515 (by decide +kernel) (by decide +kernel), tb_in 516 (by decide +kernel) (by decide +kernel), tb_in 55 (by decide +kernel) (by decide +kernel), tb_in 517 (by decide +kernel) (by decide +kernel), rfl, by decide +kernel, by decide +kernel, by decide +kernel⟩
theorem my_X5_through : MY yX5_through RX5 cX5_through 4 (some .int) 2 := ⟨tb_in 489 (by decide +kernel) (by decide +kernel), tb_in 490 (by decide +kernel) (by decide +kernel), tb_in 55 (by decide +kernel) (by decide +kernel), tb_in 491 (by decide +kernel) (by decide +kernel), rfl, by decide +kernel, by decide +kernel, by decide +kernel⟩
theorem my_X5_torn : MY yX5_torn RX5 cX5_torn 3 (some .int) 1 := ⟨tb_in 431 (by decide +kernel) (by decide +kernel), tb_in 432 (by decide +kernel) (by decide +kernel), tb_in 55 (by decide +kernel) (by decide +kernel), tb_in 433 (by decide +kernel) (by decide +kernel), rfl, by decide +kernel, by decide +kernel, by decide +kernel⟩
theorem my_X5_weight : MY yX5_weight RX5 cX5_weight 4 (some .int) 2 := ⟨tb_in 497 (by decide +kernel) (by decide +kernel), tb_in 498 (by decide +kernel) (by decide +kernel), tb_in 55 (by decide +kernel) (by decide +kernel), tb_in 499 (by decide +kernel) (by decide +kernel), rfl, by decide +kernel, by decide +kernel, by decide +kernel⟩
theorem my_X5_work : MY yX5_work RX5 cX5_work 7 (some .int) 4 := ⟨tb_in 543 (by decide +kernel) (by decide +kernel), tb_in 544 (by decide +kernel) (by decide +kernel), tb_in 55 (by decide +kernel) (by decide +kernel), tb_in 545 (by decide +kernel) (by decide +kernel), rfl, by decide +kernel, by decide +kernel, by decide +kernel⟩
theorem my_X6_broken : MY yX6_broken RX6 cX6_broken 2 (some .int) 1 := ⟨tb_in 847 (by decide +kernel) (by decide +kernel), tb_in 848 (by decide +kernel) (by decide +kernel), tb_in 58 (by decide +kernel) (by decide +kernel), tb_in 849 (by decide +kernel) (by decide +kernel), rfl, by decide +kernel, by decide +kernel, by decide +kernel⟩
theorem my_X6_count : MY yX6_count RX6 cX6_count 6 (some .int) 2 := ⟨tb_in 898 (by decide +kernel) (by decide +kernel), tb_in 899 (by decide +kernel) (by decide +kernel), tb_in 58 (by decide +kernel) (by decide +kernel), tb_in 900 (by decide +kernel) (by decide +kernel), rfl, by decide +kernel, by decide +kernel, by decide +kernel⟩
theorem my_X6_distance : MY yX6_distance RX6 cX6_distance 4 (some .int) 3 := ⟨tb_in 871 (by decide +kernel) (by decide +kernel), tb_in 872 (by decide +kernel) (by decide +kernel), tb_in 58 (by decide +kernel) (by decide +kernel), tb_in 873 (by decide +kernel) (by decide +kernel), rfl, by decide +kernel, by decide +kernel, by decide +kernel⟩
theorem my_X6_feed : MY yX6_feed RX6 cX6_feed 6 (some .int) 5 := ⟨tb_in 709 (by decide +kernel) (by decide +kernel), tb_in 710 (by decide +kernel) (by decide +kernel), tb_in 58 (by decide +kernel) (by decide +kernel), tb_in 711 (by decide +kernel) (by decide +kernel), rfl, by decide +kernel, by decide +kernel, by decide +kernel⟩
theorem my_X6_foot : MY yX6_foot RX6 cX6_foot 4 (some .int) 2 := ⟨tb_in 811 (by decide +kernel) (by decide +kernel), tb_in 812 (by decide +kernel) (by decide +kernel), tb_in 58 (by decide +kernel) (by decide +kernel), tb_in 813 (by decide +kernel) (by decide +kernel), rfl, by decide +kernel, by decide +kernel, by decide +kernel⟩
theorem my_X6_guilty : MY yX6_guilty RX6 cX6_guilty 6 (some .int) 1 := ⟨tb_in 831 (by decide +kernel) (by decide +kernel), tb_in 832 (by decide +kernel) (by decide +kernel), tb_in 58 (by decide +kernel) (by decide +kernel), tb_in 833 (by decide +kernel) (by decide +kernel), rfl, by decide +kernel, by decide +kernel, by decide +kernel⟩
theorem my_X6_heap : MY yX6_heap RX6 cX6_heap 4 (some .int) 3 := ⟨tb_in 890 (by decide +kernel) (by decide +kernel), tb_in 891 (by decide +kernel) (by decide +kernel), tb_in 58 (by decide +kernel) (by decide +kernel), tb_in 892 (by decide +kernel) (by decide +kernel), rfl, by decide +kernel, by decide +kernel, by decide +kernel⟩
theorem my_X6_heaps : MY yX6_heaps RX6 cX6_heaps 5 (some .int) 2 := ⟨tb_in 882 (by decide +kernel) (by decide +kernel), tb_in 883 (by decide +kernel) (by decide +kernel), tb_in 58 (by decide +kernel) (by decide +kernel), tb_in 884 (by decide +kernel) (by decide +kernel), rfl, by decide +kernel, by decide +kernel, by decide +kernel⟩
theorem my_X6_holder : MY yX6_holder RX6 cX6_holder 3 (some .int) 2 := ⟨tb_in 779 (by decide +kernel) (by decide +kernel), tb_in 780 (by decide +kernel) (by decide +kernel), tb_in 58 (by decide +kernel) (by decide +kernel), tb_in 781 (by decide +kernel) (by decide +kernel), rfl, by decide +kernel, by decide +kernel, by decide +kernel⟩
theorem my_X6_init : Cond.instanceMethod yX6_init ∈ TBG ∧ Cond.initialized yX6_init.cls ∈ TBG ∧ Cond.code yX6_init cX6_init 1 none ∈ TBG ∧ yX6_init.name = "<init>" ∧ yX6_init.cls ≠ "java/lang/invoke/MethodHandle" ∧ yX6_init.cls ≠ "java/lang/invoke/VarHandle" ∧ (parseMethodDescriptor yX6_init.desc).map (fun d => d.parameters.length) = some 0 := ⟨tb_in 610 (by decide +kernel) (by decide +kernel), tb_in 58 (by decide +kernel) (by decide +kernel), tb_in 611 (by decide +kernel) (by decide +kernel), rfl, by decide +kernel, by decide +kernel, by decide +kernel⟩
theorem my_X6_look : MY yX6_look RX6 cX6_look 5 (some .int) 3 := ⟨tb_in 771 (by decide +kernel) (by decide +kernel), tb_in 772 (by decide +kernel) (by decide +kernel), tb_in 58 (by decide +kernel) (by decide +kernel), tb_in 773 (by decide +kernel) (by decide +kernel), rfl, by decide +kernel, by decide +kernel, by decide +kernel⟩
theorem my_X6_meter : MY yX6_meter RX6 cX6_meter 3 (some .boolean) 2 := ⟨tb_in 863 (by decide +kernel) (by decide +kernel), tb_in 864 (by decide +kernel) (by decide +kernel), tb_in 58 (by decide +kernel) (by decide +kernel), tb_in 865 (by decide +kernel) (by decide +kernel), rfl, by decide +kernel, by decide +kernel, by decide +kernel⟩
theorem my_X6_order : MY yX6_order RX6 cX6_order 5 (some .int) 1 := ⟨tb_in 894 (by decide +kernel) (by decide +kernel), tb_in 895 (by decide +kernel) (by decide +kernel), tb_in 58 (by decide +kernel) (by decide +kernel), tb_in 896 (by decide +kernel) (by decide +kernel), rfl, by decide +kernel, by decide +kernel, by decide +kernel⟩
theorem my_X6_picture : MY yX6_picture RX6 cX6_picture 4 (some .int) 1 := ⟨tb_in 717 (by decide +kernel) (by decide +kernel), tb_in 718 (by decide +kernel) (by decide +kernel), tb_in 58 (by decide +kernel) (by decide +kernel), tb_in 719 (by decide +kernel) (by decide +kernel), rfl, by decide +kernel, by decide +kernel, by decide +kernel⟩
theorem my_X6_ring : MY yX6_ring RX6 cX6_ring 6 (some .int) 3 := ⟨tb_in 803 (by decide +kernel) (by decide +kernel), tb_in 804 (by decide +kernel) (by decide +kernel), tb_in 58 (by decide +kernel) (by decide +kernel), tb_in 805 (by decide +kernel) (by decide +kernel), rfl, by decide +kernel, by decide +kernel, by decide +kernel⟩
theorem my_X6_rings : MY yX6_rings RX6 cX6_rings 4 (some .int) 1 := ⟨tb_in 787 (by decide +kernel) (by decide +kernel), tb_in 788 (by decide +kernel) (by decide +kernel), tb_in 58 (by decide +kernel) (by decide +kernel), tb_in 789 (by decide +kernel) (by decide +kernel), rfl, by decide +kernel, by decide +kernel, by decide +kernel⟩
theorem my_X6_stuck : MY yX6_stuck RX6 cX6_stuck 4 (some .int) 1 := ⟨tb_in 835 (by decide +kernel) (by decide +kernel), tb_in 836 (by decide +kernel) (by decide +kernel), tb_in 58 (by decide +kernel) (by decide +kernel), tb_in 837 (by decide +kernel) (by decide +kernel), rfl, by decide +kernel, by decide +kernel, by decide +kernel⟩
theorem my_X6_through : MY yX6_through RX6 cX6_through 5 (some .int) 2 := ⟨tb_in 815 (by decide +kernel) (by decide +kernel), tb_in 816 (by decide +kernel) (by decide +kernel), tb_in 58 (by decide +kernel) (by decide +kernel), tb_in 817 (by decide +kernel) (by decide +kernel), rfl, by decide +kernel, by decide +kernel, by decide +kernel⟩
theorem my_X6_torn : MY yX6_torn RX6 cX6_torn 2 (some .int) 1 := ⟨tb_in 763 (by decide +kernel) (by decide +kernel), tb_in 764 (by decide +kernel) (by decide +kernel), tb_in 58 (by decide +kernel) (by decide +kernel), tb_in 765 (by decide +kernel) (by decide +kernel), rfl, by decide +kernel, by decide +kernel, by decide +kernel⟩
theorem my_X6_weight : MY yX6_weight RX6 cX6_weight 3 (some .int) 2 := ⟨tb_in 823 (by decide +kernel) (by decide +kernel), tb_in 824 (by decide +kernel) (by decide +kernel), tb_in 58 (by decide +kernel) (by decide +kernel), tb_in 825 (by decide +kernel) (by decide +kernel), rfl, by decide +kernel, by decide +kernel, by decide +kernel⟩
theorem my_X6_work : MY yX6_work RX6 cX6_work 10 (some .int) 4 := ⟨tb_in 867 (by decide +kernel) (by decide +kernel), tb_in 868 (by decide +kernel) (by decide +kernel), tb_in 58 (by decide +kernel) (by decide +kernel), tb_in 869 (by decide +kernel) (by decide +kernel), rfl, by decide +kernel, by decide +kernel, by decide +kernel⟩
theorem nw_L_10 : Cond.classLink RL 10 (RR 6) ∈ TBG ∧ Cond.instantiable (RR 6) (nF 6) ∈ TBG ∧ Cond.initialized (RR 6) ∈ TBG := ⟨tb_in 607 (by decide +kernel) (by decide +kernel), tb_in 608 (by decide +kernel) (by decide +kernel), tb_in 58 (by decide +kernel) (by decide +kernel)⟩
theorem nw_L_7 : Cond.classLink RL 7 (RR 5) ∈ TBG ∧ Cond.instantiable (RR 5) (nF 5) ∈ TBG ∧ Cond.initialized (RR 5) ∈ TBG := ⟨tb_in 63 (by decide +kernel) (by decide +kernel), tb_in 64 (by decide +kernel) (by decide +kernel), tb_in 55 (by decide +kernel) (by decide +kernel)⟩
