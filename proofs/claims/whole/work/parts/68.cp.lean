/-! PURE LAYER: a picture comes: the class -/
def picT (a0 : Nat) (y_29 : Int32) (w_30 : Wd) : Option (Int32 × Wd) := (lt' (zS w_30) (fun g_39 => (lt' (nwX1 w_30 y_29) (fun w_41 => (lt' (zS w_41) (fun g_46 => (lt' (zR w_41 5 a0 0 0) (fun u_48 => (nn u_48 (fun b_52 => (lt' (nwX3 w_41 b_52 (zS w_30)) (fun w_54 => (bd (fX3_readRows (zS w_41) w_54) (fun w_61 => (bd (fX1_followChains (zS w_30) w_61) (fun w_67 => (lt' (zR w_67 5 a0 2 0) (fun u_72 => (nn u_72 (fun b_76 => (bd (fX0_learn b_76 (zS w_30) w_67) (fun w_79 => (ckp (ix (zI w_79 5 a0 3 0) 8 = true) (lt' (sR w_79 5 a0 1 ((zI w_79 5 a0 3 0) : Int32).toNatClampNeg (some (zS w_30))) (fun w_87 => (lt' (sI w_87 5 a0 3 0 ((zI w_87 5 a0 3 0) + 1)) (fun w_92 => (some (((zI w_92 5 a0 3 0) - 1), w_92)))))))))))))))))))))))))))))
def sHd (tx : Nat → Nat) (n : Nat) : Nat × Option Nat := if isC tx n 116 0 = true then pb (nmb tx n 4 9999 1) (fun j k => if sEnd tx n j = true then (j, some k) else (j, none)) else (0, none)
theorem sHd_ok {tx : Nat → Nat} {n i k : Nat} (h : sHd tx n = (i, some k)) : i ≤ n ∧ k < 10000 ∧ sEnd tx n i = true := by
  unfold sHd at h
  by_cases c : isC tx n 116 0 = true
  · rw [if_pos c] at h
    have hok := nmb_ok (tx := tx) (n := n) (d := 4) (mx := 9999) (show 1 ≤ n from (isC_lt c).1)
    rcases e : nmb tx n 4 9999 1 with ⟨j, o⟩
    rw [e] at h hok
    cases o with
    | none => cases h
    | some u =>
      rw [pb_s] at h
      by_cases z : sEnd tx n j = true
      · rw [if_pos z] at h
        cases h
        have := hok.2 k rfl
        exact ⟨hok.1, by omega, z⟩
      · rw [if_neg z] at h; cases h
  · rw [if_neg c] at h; cases h
theorem c_head {v : Wd} {tp : Nat} {tx : Nat → Nat} {n : Nat} (hT : TxC v tp tx n) (ha : zI v 4 tp 3 0 = nI 0) : ∃ v', Fr (SA tp) v v' ∧ (∀ k, (sHd tx n).2 = some k → zI v' 4 tp 3 0 = nI (sHd tx n).1) ∧ fX4_readHead tp v = some (en (sHd tx n).2, v') := by
  unfold fX4_readHead fX4_readHead_b32 sHd
  by_cases c : isC tx n 116 0 = true
  · have h1 : 1 ≤ n := (isC_lt c).1
    rw [if_pos c, c_take_t hT ha (x := 116) (c := 116) rfl (by decide) c, bd2_s, if_neg n10]
    have F1 : Fr (SA tp) v (sI v 4 tp 3 0 (nI (0 + 1))) := SA_1 (Fr.refl v) _
    obtain ⟨v2, F2, A2, E2⟩ := c_num (i := 1) (d := 4) (mx := 9999) (xd := 4) (xm := 9999) (hT.fr (F1.mono (SA_SRd tp 0))) rfl rfl (by decide) (by decide) (zI_sIs _ _ _ _ _ _) h1
    have hok := nmb_ok (tx := tx) (n := n) (d := 4) (mx := 9999) h1
    have G2 := F1.trans F2
    rw [E2, bd2_s, c_end (hT.fr (G2.mono (SA_SRd tp 0))) A2 hok.1, bd_s]
    rcases e : nmb tx n 4 9999 1 with ⟨j, o⟩
    rw [e] at A2
    cases o with
    | none =>
      rw [pb_n, en_none]
      refine ⟨v2, G2, fun k q => (by cases q), ?_⟩
      rw [ite_self]
    | some u =>
      rw [pb_s, en_some]
      by_cases z : sEnd tx n j = true
      · rw [if_pos z, show bi (sEnd tx n ((j, some u) : Nat × Option Nat).1) = 1 by rw [show ((j, some u) : Nat × Option Nat).1 = j from rfl, z]; rfl, if_neg n10]
        exact ⟨v2, G2, fun k q => A2, rfl⟩
      · have z' : sEnd tx n j = false := by simpa using z
        rw [if_neg z, show bi (sEnd tx n ((j, some u) : Nat × Option Nat).1) = 0 by rw [show ((j, some u) : Nat × Option Nat).1 = j from rfl, z']; rfl, if_pos p00]
        exact ⟨v2, G2, fun k q => (by cases q), rfl⟩
  · rw [if_neg c, c_take_f hT ha (Nat.zero_le _) (x := 116) (c := 116) rfl (by decide) c, bd2_s, if_pos p00]
    exact ⟨v, Fr.refl v, fun k q => (by cases q), rfl⟩
/-- is the tick taken -/
def tkn (np : Nat) (tk : Nat → Nat) (k p : Nat) : Bool := decide (p < np) && decide (tk p = k)
theorem c_taken {v : Wd} {x np k : Nat} {tk : Nat → Nat} (hk : k < 10000) (h1 : ∀ p, p < np → tk p < 10000 ∧ ∃ a, zR v 5 x 1 p = some a ∧ zI v 1 a 0 0 = nI (tk p)) (h2 : ∀ p, np ≤ p → p < 8 → zR v 5 x 1 p = none) : ∀ kk fu q, q + kk = 8 → kk < fu → fX5_isTickTaken_l11 v fu (nI k) x 8 (nI q) = some (bi (fnd (tkn np tk k) kk q).isSome) := by
  intro kk
  induction kk with
  | zero =>
    intro fu q h3 h4
    obtain ⟨fu, rfl⟩ : ∃ f', fu = f' + 1 := ⟨fu - 1, by omega⟩
    show fX5_isTickTaken_b11 v (fX5_isTickTaken_l11 v fu) (nI k) x 8 (nI q) = _
    unfold fX5_isTickTaken_b11
    rw [if_pos (show (8 : Int32) ≤ nI q from nI_le (a := 8) (by omega) (by omega))]
    rfl
  | succ kk ih =>
    intro fu q h3 h4
    obtain ⟨fu, rfl⟩ : ∃ f', fu = f' + 1 := ⟨fu - 1, by omega⟩
    show fX5_isTickTaken_b11 v (fX5_isTickTaken_l11 v fu) (nI k) x 8 (nI q) = _
    unfold fX5_isTickTaken_b11 fX5_isTickTaken_b39 fnd
    rw [if_neg (show ¬ (8 : Int32) ≤ nI q from nI_ge (b := 8) (by omega) (by decide)), ckp_ix _ (by omega) (by decide), cl_nI (by omega), lt_e, nI_1, ih fu (q + 1) (by omega) (by omega)]
    by_cases c : q < np
    · obtain ⟨b1, a, b2, b3⟩ := h1 q c
      rw [b2, oc_s, b3]
      by_cases e : tk q = k
      · rw [if_pos (by rw [e]), if_pos (show tkn np tk k q = true by unfold tkn; rw [decide_eq_true c, decide_eq_true e]; rfl)]; rfl
      · rw [if_neg (by rw [i_eq (by omega) (by omega)]; exact e), if_neg (show ¬ tkn np tk k q = true by unfold tkn; rw [decide_eq_false e, Bool.and_false]; decide)]
    · rw [h2 q (by omega) (by omega), oc_n, if_neg (show ¬ tkn np tk k q = true by unfold tkn; rw [decide_eq_false c, Bool.false_and]; decide)]
/-! new objects -/
theorem n1_o {w : Wd} {y : Int32} {c a k j : Nat} (h : ¬ (c = 1 ∧ a = zS w)) : zI (nwX1 w y) c a k j = zI w c a k j := if_neg h
theorem n1_R (w : Wd) (y : Int32) (c a k j : Nat) : zR (nwX1 w y) c a k j = if c = 1 ∧ a = zS w then none else zR w c a k j := rfl
theorem n1_S (w : Wd) (y : Int32) : zS (nwX1 w y) = zS w + 7 := rfl
theorem n1_0 (w : Wd) (y : Int32) (j : Nat) : zI (nwX1 w y) 1 (zS w) 0 j = y := if_pos ⟨rfl, rfl⟩
theorem n1_7 (w : Wd) (y : Int32) (j : Nat) : zI (nwX1 w y) 1 (zS w) 7 j = -1 := if_pos ⟨rfl, rfl⟩
theorem n1_2 (w : Wd) (y : Int32) {j : Nat} (hj : j < 16) : zI (nwX1 w y) 1 (zS w) 2 j = -1 := (if_pos ⟨rfl, rfl⟩).trans (if_pos hj)
theorem n1_z (w : Wd) (y : Int32) {k : Nat} (j : Nat) (h0 : k ≠ 0) (h7 : k ≠ 7) (h2 : k ≠ 2) : zI (nwX1 w y) 1 (zS w) k j = 0 := by
  refine Eq.trans (show zI (nwX1 w y) 1 (zS w) k j = (if k = 0 then (fun _ => y) else if k = 7 then (fun _ => (-1 : Int32)) else if k = 2 then (fun j => if j < 16 then (-1 : Int32) else 0) else (fun _ => 0)) j from if_pos ⟨rfl, rfl⟩) ?_
  rw [if_neg h0, if_neg h7, if_neg h2]
theorem n3_I (w : Wd) (b e : Nat) {c a k j : Nat} (h : ¬ (c = 3 ∧ a = zS w)) : zI (nwX3 w b e) c a k j = zI w c a k j := if_neg h
theorem n3_R (w : Wd) (b e : Nat) (c a k j : Nat) : zR (nwX3 w b e) c a k j = if c = 3 ∧ a = zS w then (if k = 0 then some b else some e) else zR w c a k j := rfl
theorem n3_S (w : Wd) (b e : Nat) : zS (nwX3 w b e) = zS w + 1 := rfl
def R0 : RS := fun _ => none
theorem R0_hol (l : Nat) : pHol R0 l = none := by
  unfold pHol sHol
  cases e : fnd (fun t => pIs R0 t && hb (pHe R0 t) l) 24 0 with
  | none => rfl
  | some u =>
    have := (fnd_lt e).2.2
    rw [pIs_0 rfl, Bool.false_and] at this
    cases this
theorem R0_ok : ROK R0 := fun t d h => (by cases h)
def SPt (x tp lo np z : Nat) (c a k j : Nat) : Prop := SA tp c a k j ∨ (c = 0 ∧ a = lo) ∨ ((c = 1 ∨ c = 2 ∨ c = 3) ∧ z ≤ a) ∨ (c = 5 ∧ a = x ∧ ((k = 1 ∧ j = np) ∨ k = 3))
theorem c_tail {w : Wd} {x tp lo np : Nat} {tx : Nat → Nat} {n i k : Nat} {A : Nat → Nat → Bool} (h0 : zR w 5 x 0 0 = some tp) (h2 : zR w 5 x 2 0 = some lo) (h3 : zI w 5 x 3 0 = nI np) (hnp : np < 8) (hT : TxC w tp tx n) (ha : zI w 4 tp 3 0 = nI i) (hi : i ≤ n) (hA : BhA w lo A) : ∃ w1, Fw (SPt x tp lo np (zS w)) w w1 ∧ CPic w1 (zS w) (sRws tx n 25 i R0).2 k (sRws tx n 25 i R0).1 ∧ zR w1 5 x 1 np = some (zS w) ∧ zI w1 5 x 3 0 = nI (np + 1) ∧ LoP w1 lo (fun l b => A l b || (fnd (pah (sRws tx n 25 i R0).2 l b) 24 0).isSome) ∧ ROK (sRws tx n 25 i R0).2 ∧ picT x (nI k) w = some (nI np, w1) := by
  unfold picT
  rw [lt_e, lt_e, lt_e, lt_e, n1_R, if_neg (by omega), h0, nn_s, lt_e]
  generalize ha1 : zS w = a
  generalize hw4 : nwX3 (nwX1 w (nI k)) tp a = w4
  generalize hrr : zS (nwX1 w (nI k)) = rr
  have err : rr = a + 7 := by rw [← hrr, n1_S, ha1]
  -- the fresh picture
  have f4 : ∀ c a' k' j, ¬ (c = 3 ∧ a' = rr) → ¬ (c = 1 ∧ a' = a) → zI w4 c a' k' j = zI w c a' k' j := fun c a' k' j q1 q2 => by
    subst hw4
    rw [n3_I _ _ _ (by rw [hrr]; exact q1), n1_o (by rw [ha1]; exact q2)]
  have r4 : ∀ c a' k' j, ¬ (c = 3 ∧ a' = rr) → ¬ (c = 1 ∧ a' = a) → zR w4 c a' k' j = zR w c a' k' j := fun c a' k' j q1 q2 => by
    subst hw4
    rw [n3_R, if_neg (by rw [hrr]; exact q1), n1_R, if_neg (by rw [ha1]; exact q2)]
  have p4 : ∀ k' j, zI w4 1 a k' j = zI (nwX1 w (nI k)) 1 (zS w) k' j := fun k' j => by
    subst hw4
    rw [n3_I _ _ _ (by omega), ha1]
  have s4 : zS w4 = a + 8 := by
    subst hw4
    rw [n3_S, hrr, err]
  have Q4 : PQ w4 a R0 := by
    refine ⟨fun t ht => Or.inl ⟨rfl, ?_⟩, fun l hl => ?_, ⟨fun t u d e _ _ q => (by cases q), fun t ht => ?_⟩, ?_, ?_, ?_⟩
    · subst hw4
      rw [n3_R, if_neg (by omega), n1_R, if_pos ⟨rfl, ha1.symm⟩]
    · rw [p4, n1_2 _ _ hl, R0_hol]; rfl
    · rw [p4, n1_z _ _ _ (by decide) (by decide) (by decide)]
    · rw [p4, n1_z _ _ _ (by decide) (by decide) (by decide), cntf_no 24 0 0 (fun u _ _ => pIs_0 rfl)]; rfl
    · rw [p4, n1_z _ _ _ (by decide) (by decide) (by decide), cntf_no 24 0 0 (fun u _ _ => by rw [pIs_0 rfl, Bool.false_and])]; rfl
    · rw [p4, n1_z _ _ _ (by decide) (by decide) (by decide), cntf_no 16 0 0 (fun u _ _ => by rw [R0_hol]; rfl)]; rfl
  have C4 : RC0 w4 rr tp a tx n := by
    refine ⟨⟨?_, hT.2.1, hT.2.2.1, fun j hj => ?_⟩, ?_, ?_⟩
    · rw [f4 4 tp 2 0 (by omega) (by omega)]; exact hT.1
    · rw [f4 4 tp 0 j (by omega) (by omega)]; exact hT.2.2.2 j hj
    · subst hw4
      rw [n3_R, if_pos ⟨rfl, hrr.symm⟩, if_pos rfl]
    · subst hw4
      rw [n3_R, if_pos ⟨rfl, hrr.symm⟩, if_neg (by decide)]
  obtain ⟨w5, F5, Q5, K5, T5, E5⟩ := l_rws (z := zS w4) C4 (Nat.le_refl _) 25 26 0 i R0 w4 rfl (by decide) (Fw.refl w4) Q4 R0_ok (by rw [p4, n1_7]) (by rw [f4 4 tp 3 0 (by omega) (by omega)]; exact ha) hi
  rw [show fX3_readRows rr w4 = some w5 from E5, bd_s]
  obtain ⟨w6, F6, H6, E6⟩ := e_fcs Q5 K5 (fun t ht => by
    rw [F5.1 1 a 3 t (by unfold SL SA; omega), F5.1 1 a 4 t (by unfold SL SA; omega), p4, p4, n1_z _ _ _ (by decide) (by decide) (by decide), n1_z _ _ _ (by decide) (by decide) (by decide)]
    exact ⟨rfl, rfl⟩)
  have Q6 := Q5.f34 F6
  rw [E6, bd_s, lt_e, F6.2.1, F5.2.1 5 x 2 0 (by unfold SL SA; omega), r4 5 x 2 0 (by omega) (by omega), h2, nn_s]
  have A6 : BhA w6 lo A := fun l b hl hb' => by
    rw [F6.1 0 lo 0 l (by unfold S34; omega), F5.1 0 lo 0 l (by unfold SL SA; omega), f4 0 lo 0 l (by omega) (by omega)]
    exact hA l b hl hb'
  obtain ⟨w7, F7, B7, G7, E7⟩ := e_learn (lo := lo) Q6.1 K5 A6
  have e3 : zI w7 5 x 3 0 = nI np := by
    rw [F7.1 5 x 3 0 (by unfold SLo; omega), F6.1 5 x 3 0 (by unfold S34; omega), F5.1 5 x 3 0 (by unfold SL SA; omega), f4 5 x 3 0 (by omega) (by omega)]; exact h3
  rw [E7, bd_s, e3, ckp_ix _ hnp (by decide), cl_nI (by omega), lt_e, lt_e, zI_sR, e3, nI_1, zI_sIs, nI_pred]
  have hz5 : a + 8 ≤ zS w5 := by rw [← s4]; exact F5.2.2
  have hz7 : zS w7 = zS w5 := F7.2.2.2.trans F6.2.2.2
  have F4w : Fw (SPt x tp lo np a) w w4 := ⟨fun c a' k' j q => f4 c a' k' j (fun z => q (Or.inr (Or.inr (Or.inl ⟨by omega, by omega⟩)))) (fun z => q (Or.inr (Or.inr (Or.inl ⟨by omega, by omega⟩)))), fun c a' k' j q => r4 c a' k' j (fun z => q (Or.inr (Or.inr (Or.inl ⟨by omega, by omega⟩)))) (fun z => q (Or.inr (Or.inr (Or.inl ⟨by omega, by omega⟩)))), by omega⟩
  have F5w : Fw (SPt x tp lo np a) w4 w5 := F5.mono (fun c a' k' j q => by
    rcases q with q | q | q
    · exact Or.inl q
    · exact Or.inr (Or.inr (Or.inl ⟨by omega, by omega⟩))
    · exact Or.inr (Or.inr (Or.inl ⟨by omega, by omega⟩)))
  have F6w : Fw (SPt x tp lo np a) w5 w6 := F6.w.mono (fun c a' k' j q => Or.inr (Or.inr (Or.inl ⟨by have := q.1; omega, by have := q.2.1; omega⟩)))
  have F7w : Fw (SPt x tp lo np a) w6 w7 := F7.w.mono (fun c a' k' j q => Or.inr (Or.inl q))
  have F8w : Fw (SPt x tp lo np a) w (sI (sR w7 5 x 1 np (some a)) 5 x 3 0 (nI (np + 1))) := ((((F4w.trans F5w).trans F6w).trans F7w).setR _ (Or.inr (Or.inr (Or.inr ⟨rfl, rfl, Or.inl ⟨rfl, rfl⟩⟩)))).setI _ (Or.inr (Or.inr (Or.inr ⟨rfl, rfl, Or.inr rfl⟩)))
  have C6 : CPic w6 a (sRws tx n 25 i R0).2 k (sRws tx n 25 i R0).1 := by
    refine ⟨?_, ?_, Q6, H6, ?_⟩
    · rw [F6.1 1 a 0 0 (by unfold S34; omega), F5.1 1 a 0 0 (by unfold SL SA; omega), p4, n1_0]
    · rw [F6.1 1 a 7 0 (by unfold S34; omega)]; exact T5
    · rw [F6.2.2.2]; omega
  refine ⟨_, F8w, ?_, ?_, zI_sIs _ _ _ _ _ _, ?_, K5, rfl⟩
  · refine C6.keep (fun k' j => ?_) (fun k' j => ?_) (fun r _ k' j => ?_) ?_
    · rw [zI_sIn (by omega), zI_sR, F7.1 1 a k' j (by unfold SLo; omega)]
    · rw [zR_sI, zR_sRn (by omega), F7.2.1]
    · rw [zI_sIn (by omega), zI_sR, F7.1 2 r k' j (by unfold SLo; omega)]
    · show zS w6 ≤ zS w7
      rw [F7.2.2.2]; exact Nat.le_refl _
  · rw [zR_sI, zR_sRs]
  · exact LoP.keep ⟨B7, G7⟩ (fun k' j => by rw [zI_sIn (by omega), zI_sR])
