/-! PURE LAYER: the class learns the order of locks -/
def pah (R : RS) (l b t : Nat) : Bool := pIs R t && (decide (pWa R t = nI b) && (hb (pHe R t) l && !decide (l = b)))
theorem fnd_app (P : Nat → Bool) (k1 : Nat) : ∀ k2, (fnd P (k1 + k2) 0).isSome = ((fnd P k1 0).isSome || (fnd (fun t => P (k1 + t)) k2 0).isSome)
  | 0 => by
    show _ = (_ || false)
    rw [Bool.or_false]; rfl
  | k2 + 1 => by
    show (fnd P (k1 + k2 + 1) 0).isSome = _
    rw [fnd_sn, fnd_sn, fnd_app P k1 k2, Bool.or_assoc]
def S00 (lo : Nat) (c a k _ : Nat) : Prop := c = 0 ∧ a = lo ∧ k = 0
def SLo (lo : Nat) (c a _ _ : Nat) : Prop := c = 0 ∧ a = lo
section ZLN
variable {w : Wd} {lo a : Nat} {A : Nat → Nat → Bool} {R : RS}
theorem l_lr {r t b0 : Nat} {d : RD} (hA : BhA w lo A) (h1 : RowC w r t d) (hb0 : b0 < 16) (hw : dWa d = nI b0) : ∀ k fu l v, l + k = 16 → k < fu → Fr (S00 lo) w v → (∀ z b, z < 16 → b < 16 → hb (zI v 0 lo 0 z) b = if z < l then (A z b || (decide (dWa d = nI b) && (hb (dHe d) z && !decide (z = b)))) else A z b) → ∃ v', Fr (S00 lo) w v' ∧ BhA v' lo (fun l b => A l b || (decide (dWa d = nI b) && (hb (dHe d) l && !decide (l = b)))) ∧ fX0_learnRow_l2 fu lo r (nI l) v = some v' := by
  intro k
  induction k with
  | zero =>
    intro fu l v h3 h4 hF hV
    obtain ⟨fu, rfl⟩ : ∃ f', fu = f' + 1 := ⟨fu - 1, by omega⟩
    refine ⟨v, hF, fun z b hz hb' => by rw [hV z b hz hb', if_pos (by omega)], ?_⟩
    show fX0_learnRow_b2 (fX0_learnRow_l2 fu) lo r (nI l) v = _
    unfold fX0_learnRow_b2
    rw [if_pos (show (16 : Int32) ≤ nI l from nI_le (a := 16) (by omega) (by omega))]
  | succ k ih =>
    intro fu l v h3 h4 hF hV
    obtain ⟨fu, rfl⟩ : ∃ f', fu = f' + 1 := ⟨fu - 1, by omega⟩
    have g2 : ∀ k j, zI v 2 r k j = zI w 2 r k j := fun k j => hF.1 2 r k j (by unfold S00; omega)
    have skip : (∀ b, b < 16 → (decide (dWa d = nI b) && (hb (dHe d) l && !decide (l = b))) = false) → ∀ z b, z < 16 → b < 16 → hb (zI v 0 lo 0 z) b = if z < l + 1 then (A z b || (decide (dWa d = nI b) && (hb (dHe d) z && !decide (z = b)))) else A z b := by
      intro h z b hz hb'
      rw [hV z b hz hb']
      by_cases q : z < l
      · rw [if_pos q, if_pos (by omega)]
      · rw [if_neg q]
        by_cases q2 : z = l
        · rw [if_pos (by omega), q2, h b hb', Bool.or_false]
        · rw [if_neg (by omega)]
    show ∃ v', _ ∧ _ ∧ fX0_learnRow_b2 (fX0_learnRow_l2 fu) lo r (nI l) v = _
    unfold fX0_learnRow_b2 fX0_learnRow_b39
    rw [if_neg (show ¬ (16 : Int32) ≤ nI l from nI_ge (b := 16) (by omega) (by decide)), e_holds, bd_s, g2 4 0, g2 5 0, h1.2.2.2.1, h1.2.2.2.2.1, nI_1]
    by_cases e : hb (dHe d) l = true
    · rw [e, bi_t, if_neg n10]
      by_cases e2 : l = b0
      · rw [if_pos (show nI l = dWa d by rw [hw, e2])]
        refine ih fu (l + 1) v (by omega) (by omega) hF (skip (fun b hb' => ?_))
        rw [hw, dec_nI (by omega) (by omega)]
        by_cases q : b0 = b
        · rw [decide_eq_true (show l = b by omega)]; simp
        · rw [decide_eq_false q, Bool.false_and]
      · rw [if_neg (show ¬ nI l = dWa d by rw [hw, i_eq (by omega) (by omega)]; exact e2), ckp_ix _ (by omega) (by decide), ckp_ix _ (by omega) (by decide), cl_nI (by omega), lt_e]
        refine ih fu (l + 1) _ (by omega) (by omega) (hF.set _ ⟨rfl, rfl, rfl⟩) (fun z b hz hb' => ?_)
        by_cases q : z = l
        · subst q
          rw [zI_sIs, hw, hb_set (by omega) (by omega), hV z b hz hb', if_neg (by omega), if_pos (by omega), dec_nI (by omega) (by omega), e]
          by_cases q2 : b0 = b
          · rw [decide_eq_true q2, decide_eq_true q2.symm, decide_eq_false (show ¬ z = b by omega)]; rfl
          · rw [decide_eq_false q2, decide_eq_false (fun y => q2 y.symm)]; simp
        · rw [zI_sIn (by omega), hV z b hz hb']
          by_cases q3 : z < l
          · rw [if_pos q3, if_pos (by omega)]
          · rw [if_neg q3, if_neg (by omega)]
    · have e' : hb (dHe d) l = false := by simpa using e
      rw [e', bi_f, if_pos p00]
      refine ih fu (l + 1) v (by omega) (by omega) hF (skip (fun b hb' => ?_))
      rw [e', Bool.false_and, Bool.and_false]
theorem l_ln (hR : PRow w a R) (hok : ROK R) : ∀ k fu t v, t + k = 24 → k < fu → Fr (S00 lo) w v → BhA v lo (fun l b => A l b || (fnd (pah R l b) t 0).isSome) → ∃ v', Fr (S00 lo) w v' ∧ BhA v' lo (fun l b => A l b || (fnd (pah R l b) 24 0).isSome) ∧ fX0_learn_l11 fu lo a 24 (nI t) v = bd (fX0_findRing lo v') (fun w => some w) := by
  intro k
  induction k with
  | zero =>
    intro fu t v h3 h4 hF hV
    obtain ⟨fu, rfl⟩ : ∃ f', fu = f' + 1 := ⟨fu - 1, by omega⟩
    have ht : t = 24 := by omega
    subst ht
    refine ⟨v, hF, hV, ?_⟩
    show fX0_learn_b11 (fX0_learn_l11 fu) lo a 24 (nI 24) v = _
    unfold fX0_learn_b11
    rw [if_pos (show (24 : Int32) ≤ nI 24 by decide)]
  | succ k ih =>
    intro fu t v h3 h4 hF hV
    obtain ⟨fu, rfl⟩ : ∃ f', fu = f' + 1 := ⟨fu - 1, by omega⟩
    have step : ∀ v2, Fr (S00 lo) w v2 → (∀ l b, l < 16 → b < 16 → hb (zI v2 0 lo 0 l) b = (A l b || (fnd (pah R l b) t 0).isSome || pah R l b t)) → ∃ v', Fr (S00 lo) w v' ∧ BhA v' lo (fun l b => A l b || (fnd (pah R l b) 24 0).isSome) ∧ fX0_learn_l11 fu lo a 24 (nI (t + 1)) v2 = bd (fX0_findRing lo v') (fun w => some w) := by
      intro v2 F2 H2
      refine ih fu (t + 1) v2 (by omega) (by omega) F2 (fun l b hl hb' => ?_)
      show _ = (A l b || (fnd (pah R l b) (t + 1) 0).isSome)
      rw [H2 l b hl hb', fnd_sn, Bool.or_assoc]
    show ∃ v', _ ∧ _ ∧ fX0_learn_b11 (fX0_learn_l11 fu) lo a 24 (nI t) v = _
    unfold fX0_learn_b11 fX0_learn_b42
    rw [if_neg (show ¬ (24 : Int32) ≤ nI t from nI_ge (b := 24) (by omega) (by decide)), ckp_ix _ (by omega) (by decide), cl_nI (by omega), lt_e, hF.2.1, nI_1]
    rcases hR t (by omega) with ⟨q1, q2⟩ | ⟨d, r, q1, q2, -, q4⟩
    · rw [q2, oc_n]
      refine step v hF (fun l b hl hb' => ?_)
      rw [hV l b hl hb', show pah R l b t = false by unfold pah; rw [pIs_0 q1, Bool.false_and], Bool.or_false]
    · have g2 : ∀ k j, zI v 2 r k j = zI w 2 r k j := fun k j => hF.1 2 r k j (by unfold S00; omega)
      have hp : ∀ l b, pah R l b t = (decide (dWa d = nI b) && (hb (dHe d) l && !decide (l = b))) := fun l b => by
        unfold pah
        rw [pIs_1 q1, Bool.true_and, show pWa R t = dWa d by unfold pWa; rw [q1], show pHe R t = dHe d by unfold pHe; rw [q1]]
      rw [q2, oc_s, e_isWaiting, bd_s, g2 5 0, q4.2.2.2.2.1]
      rcases (hok t d q1).2.2.2.1 with e | ⟨b0, hb0, e⟩
      · rw [e, show bi (!decide ((-1 : Int32) = -1)) = 0 from rfl, if_pos p00]
        refine step v hF (fun l b hl hb' => ?_)
        rw [hV l b hl hb', hp, e, decide_eq_false (show ¬ (-1 : Int32) = nI b from fun z => m1_ne (by omega) z.symm), Bool.false_and, Bool.or_false]
      · rw [show bi (!decide (dWa d = -1)) = 1 by rw [e, decide_eq_false (m1_ne (by omega))]; rfl, if_neg n10]
        obtain ⟨v2, F2, B2, E2⟩ := l_lr hV (q4.fr g2) hb0 e 16 1000 0 v rfl (by decide) (Fr.refl v) (fun z b hz hb' => by rw [if_neg (by omega)]; exact hV z b hz hb')
        rw [show fX0_learnRow lo r v = some v2 from E2, bd_s]
        refine step v2 (hF.trans F2) (fun l b hl hb' => ?_)
        rw [B2 l b hl hb', hp]
theorem e_learn (hR : PRow w a R) (hok : ROK R) (hA : BhA w lo A) : ∃ v', Fr (SLo lo) w v' ∧ BhA v' lo (fun l b => A l b || (fnd (pah R l b) 24 0).isSome) ∧ RgR v' lo (brs (fun l b => A l b || (fnd (pah R l b) 24 0).isSome) 16 0 0 (fun _ => 0)).1 (brs (fun l b => A l b || (fnd (pah R l b) 24 0).isSome) 16 0 0 (fun _ => 0)).2 ∧ fX0_learn lo a w = some v' := by
  obtain ⟨v1, F1, B1, E1⟩ := l_ln (A := A) hR hok 24 1000 0 w rfl (by decide) (Fr.refl w) (fun l b hl hb' => by rw [hA l b hl hb']; exact (Bool.or_false _).symm)
  obtain ⟨v2, F2, G2, E2⟩ := e_findRing B1
  refine ⟨v2, (F1.mono (fun c a k j q => ⟨q.1, q.2.1⟩)).trans (F2.mono (fun c a k j q => ⟨q.1, q.2.1⟩)), fun l b hl hb' => ?_, G2, ?_⟩
  · rw [F2.1 0 lo 0 l (by unfold S03; omega)]; exact B1 l b hl hb'
  · rw [show fX0_learn lo a w = _ from E1, E2, bd_s]
end ZLN
