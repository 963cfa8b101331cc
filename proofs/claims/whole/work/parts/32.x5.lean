section ZW
variable {x : CT} {cc bytes : ByteArray} {own : String} {rm rmy : Room} {ret : Option FieldType} {pc pc' maxL n index ci c a k : Nat} {L : List (Option Value)} {st rest As : List Value} {cs ss : Nat} {w w' : Wd} {y : MethodName} {X : va_W} {P : GT → Nat → Prop}
theorem v_getP (hP : ∀ G sz, P G sz → Rp (xD x) w G sz) (hx : CX x cc own rm ret) (hl : zL w ci a = true) (hk : k < nF ci) (hfl : FL own index ci k) {v : Value} (hv : fv w ci a k = v) (d : decode cc pc = .ok (.getfield index, 3)) (hp : pc + 3 = pc') (kk : V x pc' L (v :: st) P cs ss) : V x pc L (.ref a :: st) P cs ss := by
  obtain ⟨p, l, e, R, s, m, args, below, meth, c, Q, D, A, nL⟩ := x
  obtain ⟨hx, hb, hml, hown, hts, hK, hA, hlk, hr, hR⟩ := hx
  subst hp
  intro G sz H locs ls a1 a2 a3 a4 a5 a6
  have b1 := hP G sz a1
  exact G_get hx hb hown hts hK a3 (b1.1 ci a hl).2 (b1.1 ci a hl).1 hk hfl (by rw [fl_at _ _ hk, hv]) d (kk G sz H locs ls a1 a2 a3 a4 a5 a6)
theorem v_getRX (hx : CX x cc own rm ret) (hl : zL w ci a = true) (hk : k < nF ci) (hd : kd ci k = 1) (hfl : FL own index ci k) (d : decode cc pc = .ok (.getfield index, 3)) (hp : pc + 3 = pc') (kk : V x pc' L (va_rf (zR w ci a k 0) :: st) (RX (xD x) w c) cs ss) : V x pc L (.ref a :: st) (RX (xD x) w c) cs ss :=
  v_getP (w := bump w) (fun G sz h => h.1) hx hl hk hfl (by unfold fv; rw [if_neg (by rw [hd]; decide), if_pos hd]; rfl) d hp kk
theorem v_livX {ci a : Nat} (hl : zL w ci a = true) (k : (∀ kf j b, zR w ci a kf j = some b → zL w (tg ci kf) b = true) → V x pc L st (RX (xD x) w c) cs ss) : V x pc L st (RX (xD x) w c) cs ss := by
  obtain ⟨p, l, e, R, s, m, args, below, meth, c, Q, D, A, nL⟩ := x
  intro G sz H locs ls a1
  exact k (fun kf j b h => a1.1.2.2.2.1 _ _ kf j b hl h) G sz H locs ls a1
theorem v_callIvY (hx : CX x cc own rm ret) (hM : ∀ G sz, RX (xD x) w c G sz → MetV (xl x) y (WS y bytes maxL none) rmy (xD x) (.ref (zS w) :: As) G sz w') (hy : Cond.instanceMethod y ∈ TBG ∧ Cond.initialized y.cls ∈ TBG ∧ Cond.code y bytes maxL none ∈ TBG ∧ y.name = "<init>" ∧ y.cls ≠ "java/lang/invoke/MethodHandle" ∧ y.cls ≠ "java/lang/invoke/VarHandle" ∧ (parseMethodDescriptor y.desc).map (fun d => d.parameters.length) = some n) (hln : ML own index y) (hroom : rmy.frames + 1 ≤ rm.frames ∧ 8 + (maxL + 11) + rmy.locals ≤ rm.locals) (hcs : cs + rmy.cells ≤ rm.cells ∧ ss + rmy.slots ≤ rm.slots) (hn : As.length = n) (hst : st = As.reverse ++ .ref (zS w) :: rest) (hcat : (rest.map fun v => v.category).sum ≤ 8) (d : decode cc pc = .ok (.invokespecial index, 3)) (hp : pc + 3 = pc')
    (k : V x pc' L rest (RY (xD x) w' X) (cs + rmy.cells) (ss + rmy.slots)) : V x pc L st (RY (xD x) (bump w) (X ++ [(zS w, .inr (c, dflt c))])) cs ss := by
  obtain ⟨p, l, e, R, s, m, args, below, meth, c0, Q, D, A, nL⟩ := x
  obtain ⟨hx, hb, hml, hown, hts, hK, hA, hlk, hr, rfl⟩ := hx
  subst hp
  intro G sz H locs ls a1 a2 a3 a4 a5 a6
  have hXm : ∀ q ∈ X, q ∈ X ++ [(zS w, (.inr (c, dflt c) : va_E))] := fun q hq => List.mem_append_left _ hq
  obtain ⟨Gc, hGc⟩ : ∃ Gc : GT, ∀ a, Gc a = if a ∈ X.map (fun p => p.1) then none else G a := ⟨_, fun a => rfl⟩
  have hin : ∀ a, a ∈ X.map (fun p => p.1) → Gc a = none := fun a h => by rw [hGc, if_pos h]
  have hout : ∀ a, ¬ a ∈ X.map (fun p => p.1) → Gc a = G a := fun a h => by rw [hGc, if_neg h]
  have hsub : ∀ a e, Gc a = some e → G a = some e := fun a e h => by
    by_cases q : a ∈ X.map (fun p => p.1)
    · rw [hin a q] at h; cases h
    · rw [hout a q] at h; exact h
  have hnd := a1.2.2
  rw [List.map_append, List.nodup_append] at hnd
  have hq0 : ¬ zS w ∈ X.map (fun p => p.1) := fun h => hnd.2.2 _ h (zS w) (by simp) rfl
  have hfx : ∀ a, a ∈ X.map (fun p => p.1) → FPf (bump w) a ∧ ∃ e, G a = some e := fun a h => by
    obtain ⟨q, hq, rfl⟩ := List.mem_map.mp h
    exact ⟨(a1.2.1 q (hXm q hq)).2, _, (a1.2.1 q (hXm q hq)).1⟩
  have hRX : RX D w c Gc sz := by
    have hlast : (zS w, (.inr (c, dflt c) : va_E)) ∈ X ++ [(zS w, (.inr (c, dflt c) : va_E))] := List.mem_append_right _ (List.mem_singleton.mpr rfl)
    refine ⟨⟨fun c' a' hl => ⟨(a1.1.1 c' a' hl).1, ?_⟩, fun c' a' k' hl hk hd => ?_, a1.1.2.2⟩, fun p hp => ?_, by simp⟩
    · rw [hout a' (fun h => by have := (hfx a' h).1.1 c'; rw [hl] at this; cases this)]
      exact (a1.1.1 c' a' hl).2
    · rw [hout _ (fun h => (hfx _ h).1.2 c' a' k' hl hk hd rfl)]
      exact a1.1.2.1 c' a' k' hl hk hd
    · rw [List.mem_singleton.mp hp]
      exact ⟨by rw [hout _ hq0]; exact (a1.2.1 _ hlast).1, (a1.2.1 _ hlast).2⟩
  have a3c : GP D Gc H := fun a e h => a3 a e (hsub a e h)
  have a4c : ∀ a e, Gc a = some e → A a := fun a e h => a4 a e (hsub a e h)
  have hAA := AA_to a2 a4c a5 hA
  refine va_callv (runI_any hx hb hml hown hts hK a2 a3c a6.1 (hM Gc sz hRX) hy hln hroom hcs hn hst hcat d) a5 (fun q _ h => hAA q h) hAA (fun u t H1 locs1 ht hvm hw hB hz1 hk1 hS => ?_)
  obtain ⟨w1, G1⟩ := u
  obtain rfl := hw
  obtain ⟨b1, b2, b3, b4⟩ := hB
  subst ht
  have hnot : ∀ a, a ∈ X.map (fun p => p.1) → ¬ AA Gc sz a := fun a h hAAa => by
    rcases hAAa with ⟨e, he⟩ | he
    · rw [hin a h] at he; cases he
    · obtain ⟨e, he2⟩ := (hfx a h).2
      have := (a3 a e he2).lt
      have h3 : a < H.size := this
      omega
  have hG1 : ∀ a, a ∈ X.map (fun p => p.1) → G1 a = none := fun a h => by
    cases he : G1 a with
    | none => rfl
    | some e => exact absurd (b4 a e he) (hnot a h)
  obtain ⟨G2, hG2⟩ : ∃ G2 : GT, ∀ a, G2 a = if a ∈ X.map (fun p => p.1) then G a else G1 a := ⟨_, fun a => rfl⟩
  have g2o : ∀ a e, G1 a = some e → G2 a = some e := fun a e h => by
    by_cases q : a ∈ X.map (fun p => p.1)
    · rw [hG1 a q] at h; cases h
    · rw [hG2, if_neg q]; exact h
  have hRY : RY D w1 X G2 (zS w1) := by
    refine ⟨⟨fun c' a' hl => ⟨(b1.1 c' a' hl).1, g2o _ _ (b1.1 c' a' hl).2⟩, fun c' a' k' hl hk hd => g2o _ _ (b1.2.1 c' a' k' hl hk hd), b1.2.2⟩, fun p hp => ?_, hnd.1⟩
    have hm : p.1 ∈ X.map (fun p => p.1) := List.mem_map.mpr ⟨p, hp, rfl⟩
    exact ⟨by rw [hG2, if_pos hm]; exact (a1.2.1 p (hXm p hp)).1, FP_fresh b1 (hG1 _ hm)⟩
  refine k G2 (zS w1) t.heap locs1 ls hRY b3 (fun a e h => ?_) (fun a e h => ?_) hS a6
  · by_cases q : a ∈ X.map (fun p => p.1)
    · rw [hG2, if_pos q] at h
      have hl := (a3 a e h).lt
      exact (a3 a e h).kept (hk1 a hl (hnot a q))
    · rw [hG2, if_neg q] at h
      exact b2 a e h
  · by_cases q : a ∈ X.map (fun p => p.1)
    · rw [hG2, if_pos q] at h; exact a4 a e h
    · rw [hG2, if_neg q] at h; exact hAA a (b4 a e h)
end ZW
theorem nw_X5_7 : Cond.classLink RX5 7 (RR 4) ∈ TBG ∧ Cond.instantiable (RR 4) (nF 4) ∈ TBG ∧ Cond.initialized (RR 4) ∈ TBG := ⟨tb_in 71 (by decide +kernel) (by decide +kernel), tb_in 72 (by decide +kernel) (by decide +kernel), tb_in 56 (by decide +kernel) (by decide +kernel)⟩
theorem nw_X5_22 : Cond.classLink RX5 22 (RR 0) ∈ TBG ∧ Cond.instantiable (RR 0) (nF 0) ∈ TBG ∧ Cond.initialized (RR 0) ∈ TBG := ⟨tb_in 95 (by decide +kernel) (by decide +kernel), tb_in 96 (by decide +kernel) (by decide +kernel), tb_in 57 (by decide +kernel) (by decide +kernel)⟩
theorem my_X4_init : Cond.instanceMethod yX4_init ∈ TBG ∧ Cond.initialized yX4_init.cls ∈ TBG ∧ Cond.code yX4_init cX4_init 1 none ∈ TBG ∧ yX4_init.name = "<init>" ∧ yX4_init.cls ≠ "java/lang/invoke/MethodHandle" ∧ yX4_init.cls ≠ "java/lang/invoke/VarHandle" ∧ (parseMethodDescriptor yX4_init.desc).map (fun d => d.parameters.length) = some 0 := ⟨tb_in 74 (by decide +kernel) (by decide +kernel), tb_in 56 (by decide +kernel) (by decide +kernel), tb_in 75 (by decide +kernel) (by decide +kernel), rfl, by decide +kernel, by decide +kernel, by decide +kernel⟩
theorem my_X0_init : Cond.instanceMethod yX0_init ∈ TBG ∧ Cond.initialized yX0_init.cls ∈ TBG ∧ Cond.code yX0_init cX0_init 1 none ∈ TBG ∧ yX0_init.name = "<init>" ∧ yX0_init.cls ≠ "java/lang/invoke/MethodHandle" ∧ yX0_init.cls ≠ "java/lang/invoke/VarHandle" ∧ (parseMethodDescriptor yX0_init.desc).map (fun d => d.parameters.length) = some 0 := ⟨tb_in 98 (by decide +kernel) (by decide +kernel), tb_in 57 (by decide +kernel) (by decide +kernel), tb_in 99 (by decide +kernel) (by decide +kernel), rfl, by decide +kernel, by decide +kernel, by decide +kernel⟩
theorem ml_X5_9 : ML RX5 9 yX4_init := Or.inl (tb_in 73 (by decide +kernel) (by decide +kernel))
theorem ml_X5_24 : ML RX5 24 yX0_init := Or.inl (tb_in 97 (by decide +kernel) (by decide +kernel))
def nwX5 (w : Wd) : Wd := mkO (nwX0 (bump (nwX4 (bump w)))) 5 (zS w) (fun k _ => if k = 4 then 10000 else if k = 5 then 10 else 0) (fun k _ => if k = 0 then some (zS w + 1) else if k = 2 then some (zS w + 4) else none) (fun _ => zS w + 3)
theorem mo_nwX5 (w : Wd) : mo w (nwX5 w) := mo_mkO ((((mo_bump w).tr (mo_nwX4 _)).tr (mo_bump _)).tr (mo_nwX0 _)) (by show zS w < zS w + 1 + 2 + 1 + 4; omega) (Nat.le_refl _)
theorem lv_nwX5 (w : Wd) : zL (nwX5 w) 5 (zS w) = true := lv_mkO _ _ _ _ _ _
theorem mkO_ne {w : Wd} {c q : Nat} {fI : Nat → Nat → Int32} {fR : Nat → Nat → Option Nat} {fA : Nat → Nat} {c' a : Nat} (h : c' ≠ c) : (mkO w c q fI fR fA).2.2.2.1 c' a = w.2.2.2.1 c' a := if_neg (fun e => h e.1)
set_option maxHeartbeats 8000000 in
theorem ctX5_init (l : Launch) (D : DD) (w : Wd) (G : GT) (sz : Nat) (hR : RX D w 5 G sz) : MetV l yX5_init (WS yX5_init cX5_init 1 none) rmX5_init D [.ref (zS w)] G sz (nwX5 w) := by
  refine MetV_ofVI (own := RX5) (P := RX D w 5) hR (by decide) rfl rfl (by simp [Value.category]) (Nat.le_of_ble_eq_true rfl) (fun x hx hin hq hD hl => ?_)
  subst hD
  unfold RX
  refine V.imp (P' := RY (xD x) (bump w) [(zS w, .inr (5, [.null, .null, .null, .int 0, .int 0, .int 0]))]) (fun G sz h => h) ?_
  refine v_aload_n (pc' := 1) hx dX5_init_0 rfl rfl ?_
  refine v_obj (pc' := 4) hx (tb_in 68 (by decide +kernel) (by decide +kernel)) oi_1 oi_2 ⟨by decide, by decide⟩ dX5_init_1 rfl ?_
  refine v_aload_n (pc' := 5) hx dX5_init_4 rfl rfl ?_
  refine v_newY (pc' := 8) (c := 4) hx (by decide) nw_X5_7 ⟨by decide, by decide⟩ dX5_init_5 rfl ?_
  refine v_dup (pc' := 9) hx dX5_init_8 rfl rfl ?_
  refine v_callIvY (pc' := 12) (w' := (nwX4 (bump w))) (w := (bump w)) (c := 4) (As := []) (rest := [.ref (zS (bump w)), .ref (zS w)]) hx (fun G sz hR => ctX4_init (xl x) (xD x) (bump w) G sz hR) my_X4_init ml_X5_9 ⟨by decide, by decide⟩ ⟨by decide, by decide⟩ rfl rfl (Nat.le_of_ble_eq_true rfl) dX5_init_9 rfl ?_
  refine v_yput (pc' := 15) (i := 0) (c := 5) (k := 0) (fs' := [.ref (zS w + 1), .null, .null, .int 0, .int 0, .int 0]) (X' := [(zS w, .inr (5, [.ref (zS w + 1), .null, .null, .int 0, .int 0, .int 0]))]) hx hin rfl (by decide) (by decide) (tb_in 115 (by decide +kernel) (by decide +kernel)) rfl rfl rfl (Nat.le_of_ble_eq_true rfl) rfl rfl dX5_init_12 rfl ?_
  refine v_aload_n (pc' := 16) hx dX5_init_15 rfl rfl ?_
  refine v_bipush (pc' := 18) (v := 8) hx dX5_init_16 (by decide) rfl ?_
  refine v_yanew2 (pc' := 21) (w' := (bump (nwX4 (bump w)))) (a := zS w + 3) (X' := [(zS w, .inr (5, [.ref (zS w + 1), .null, .null, .int 0, .int 0, .int 0])), (zS w + 3, .inl ((xD x).2 4, 8, .inr (.inr (.inr (.inr (fun _ => none))))))]) (t := 4) (n := 8) (C := "StuckHands$Picture") hx rfl rfl rfl (fun _ => rfl) (fun _ _ h => h.2.2.2) (tb_in 93 (by decide +kernel) (by decide +kernel)) (by decide) (by decide) (by decide) ⟨by decide, by decide⟩ dX5_init_18 rfl ?_
  refine v_yput (pc' := 24) (i := 0) (c := 5) (k := 1) (fs' := [.ref (zS w + 1), .ref (zS w + 3), .null, .int 0, .int 0, .int 0]) (X' := [(zS w, .inr (5, [.ref (zS w + 1), .ref (zS w + 3), .null, .int 0, .int 0, .int 0])), (zS w + 3, .inl ((xD x).2 4, 8, .inr (.inr (.inr (.inr (fun _ => none))))))]) hx hin rfl (by decide) (by decide) (tb_in 116 (by decide +kernel) (by decide +kernel)) rfl rfl rfl (Nat.le_of_ble_eq_true rfl) rfl rfl dX5_init_21 rfl ?_
  refine v_aload_n (pc' := 25) hx dX5_init_24 rfl rfl ?_
  refine v_newY (pc' := 28) (c := 0) hx (by decide) nw_X5_22 ⟨by decide, by decide⟩ dX5_init_25 rfl ?_
  refine v_dup (pc' := 29) hx dX5_init_28 rfl rfl ?_
  refine v_callIvY (pc' := 32) (w' := (nwX0 (bump (nwX4 (bump w))))) (w := (bump (nwX4 (bump w)))) (c := 0) (As := []) (rest := [.ref (zS (bump (nwX4 (bump w)))), .ref (zS w)]) hx (fun G sz hR => ctX0_init (xl x) (xD x) (bump (nwX4 (bump w))) G sz hR) my_X0_init ml_X5_24 ⟨by decide, by decide⟩ ⟨by decide, by decide⟩ rfl rfl (Nat.le_of_ble_eq_true rfl) dX5_init_29 rfl ?_
  refine v_yput (pc' := 35) (i := 0) (c := 5) (k := 2) (fs' := [.ref (zS w + 1), .ref (zS w + 3), .ref (zS w + 4), .int 0, .int 0, .int 0]) (X' := [(zS w, .inr (5, [.ref (zS w + 1), .ref (zS w + 3), .ref (zS w + 4), .int 0, .int 0, .int 0])), (zS w + 3, .inl ((xD x).2 4, 8, .inr (.inr (.inr (.inr (fun _ => none))))))]) hx hin rfl (by decide) (by decide) (tb_in 117 (by decide +kernel) (by decide +kernel)) rfl rfl rfl (Nat.le_of_ble_eq_true rfl) rfl rfl dX5_init_32 rfl ?_
  refine v_aload_n (pc' := 36) hx dX5_init_35 rfl rfl ?_
  refine v_iconst (pc' := 37) (v := 0) hx dX5_init_36 (by decide) rfl ?_
  refine v_yput (pc' := 40) (i := 0) (c := 5) (k := 3) (fs' := [.ref (zS w + 1), .ref (zS w + 3), .ref (zS w + 4), .int 0, .int 0, .int 0]) (X' := [(zS w, .inr (5, [.ref (zS w + 1), .ref (zS w + 3), .ref (zS w + 4), .int 0, .int 0, .int 0])), (zS w + 3, .inl ((xD x).2 4, 8, .inr (.inr (.inr (.inr (fun _ => none))))))]) hx hin rfl (by decide) (by decide) (tb_in 118 (by decide +kernel) (by decide +kernel)) rfl rfl rfl (Nat.le_of_ble_eq_true rfl) rfl rfl dX5_init_37 rfl ?_
  refine v_aload_n (pc' := 41) hx dX5_init_40 rfl rfl ?_
  refine v_sipush (pc' := 44) (v := 10000) hx dX5_init_41 (by decide) rfl ?_
  refine v_yput (pc' := 47) (i := 0) (c := 5) (k := 4) (fs' := [.ref (zS w + 1), .ref (zS w + 3), .ref (zS w + 4), .int 0, .int 10000, .int 0]) (X' := [(zS w, .inr (5, [.ref (zS w + 1), .ref (zS w + 3), .ref (zS w + 4), .int 0, .int 10000, .int 0])), (zS w + 3, .inl ((xD x).2 4, 8, .inr (.inr (.inr (.inr (fun _ => none))))))]) hx hin rfl (by decide) (by decide) (tb_in 119 (by decide +kernel) (by decide +kernel)) rfl rfl rfl (Nat.le_of_ble_eq_true rfl) rfl rfl dX5_init_44 rfl ?_
  refine v_aload_n (pc' := 48) hx dX5_init_47 rfl rfl ?_
  refine v_bipush (pc' := 50) (v := 10) hx dX5_init_48 (by decide) rfl ?_
  refine v_yput (pc' := 53) (i := 0) (c := 5) (k := 5) (fs' := [.ref (zS w + 1), .ref (zS w + 3), .ref (zS w + 4), .int 0, .int 10000, .int 10]) (X' := [(zS w, .inr (5, [.ref (zS w + 1), .ref (zS w + 3), .ref (zS w + 4), .int 0, .int 10000, .int 10])), (zS w + 3, .inl ((xD x).2 4, 8, .inr (.inr (.inr (.inr (fun _ => none))))))]) hx hin rfl (by decide) (by decide) (tb_in 120 (by decide +kernel) (by decide +kernel)) rfl rfl rfl (Nat.le_of_ble_eq_true rfl) rfl rfl dX5_init_50 rfl ?_
  refine V.imp (P' := Rp (xD x) (nwX5 w)) (fun G sz h => RY_end h (by decide) (List.mem_of_getElem? (i := 0) rfl) (fun k hk hd => ?_) (fun k hk k' hk' hd hd' e => ?_) (fun k j b hb => ?_)) ?_
  · have hk9 : k < 6 := hk
    rcases (show k = 0 ∨ k = 1 ∨ k = 2 ∨ k = 3 ∨ k = 4 ∨ k = 5 by omega) with rfl | rfl | rfl | rfl | rfl | rfl
    · exact absurd hd (by decide)
    · exact List.mem_of_getElem? (i := 1) rfl
    · exact absurd hd (by decide)
    · exact absurd hd (by decide)
    · exact absurd hd (by decide)
    · exact absurd hd (by decide)
  · have hk9 : k < 6 := hk
    have hk8 : k' < 6 := hk'
    clear e
    revert hd hd'
    have inj5 : ∀ k, k < 6 → ∀ k', k' < 6 → 2 ≤ kd 5 k → 2 ≤ kd 5 k' → k = k' := by decide +kernel
    exact inj5 k hk9 k' hk8
  · by_cases e0 : k = 0
    · subst e0
      rw [if_pos rfl] at hb; cases hb
      show (nwX0 (bump (nwX4 (bump w)))).2.2.2.1 4 (zS w + 1) = true
      unfold nwX0
      rw [mkO_ne (by decide)]
      exact lv_nwX4 (bump w)
    · rw [if_neg e0] at hb
      by_cases e2 : k = 2
      · subst e2
        rw [if_pos rfl] at hb; cases hb
        exact lv_nwX0 (bump (nwX4 (bump w)))
      · rw [if_neg e2] at hb; cases hb
  exact v_vret hx hq (by decide) (by decide) dX5_init_53 rfl
