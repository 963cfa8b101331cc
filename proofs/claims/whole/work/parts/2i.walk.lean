theorem vX0_lockOfRing_b22 {x : CT} (hx : CX x cX0_lockOfRing RX0 rmX0_lockOfRing (some .int)) {r0 : Int32} {w : Wd} (hq : RI x rmX0_lockOfRing r0 w) {xs0 : Int32} (h : fX0_lockOfRing_b22 w xs0 = some r0) : V x 22 [none, none] [.int xs0] (Rp (xD x) w) 0 0 := by
  unfold fX0_lockOfRing_b22 at h
  exact v_iret hx hq (by decide) (by decide) dX0_lockOfRing_22 (by cases h; rfl)
theorem vX0_lockOfRing_b12 {x : CT} (hx : CX x cX0_lockOfRing RX0 rmX0_lockOfRing (some .int)) {r0 : Int32} {w : Wd} (hq : RI x rmX0_lockOfRing r0 w) (h : fX0_lockOfRing_b12 w = some r0) : V x 12 [none, none] [] (Rp (xD x) w) 0 0 := by
  unfold fX0_lockOfRing_b12 at h
  refine v_iconst (pc' := 13) (v := (-1)) hx dX0_lockOfRing_12 (by decide) rfl ?_
  refine v_goto (tgt := 22) hx dX0_lockOfRing_13 (by decide) ?_
  exact vX0_lockOfRing_b22 hx hq h
theorem vX0_lockOfRing {x : CT} (hx : CX x cX0_lockOfRing RX0 rmX0_lockOfRing (some .int)) {r0 : Int32} {w : Wd} (hq : RI x rmX0_lockOfRing r0 w) (a0 : Nat) (x1 : Int32) (hl0 : zL w 0 a0 = true) (h : fX0_lockOfRing a0 x1 w = some r0) : V x 0 [some (.ref a0), some (.int x1)] [] (Rp (xD x) w) 0 0 := by
  unfold fX0_lockOfRing at h
  refine v_iload_n (pc' := 1) hx dX0_lockOfRing_0 rfl rfl ?_
  refine v_if_lt (tgt := 12) (pc' := 4) hx dX0_lockOfRing_1 (by decide) rfl (fun hc_1 => ?_) (fun hc_1 => ?_)
  · rw [if_pos hc_1] at h
    refine V.sb (L' := [none, none]) ⟨Or.inl rfl, Or.inl rfl, trivial⟩ ?_
    exact vX0_lockOfRing_b12 hx hq h
  · rw [if_neg hc_1] at h
    refine v_iload_n (pc' := 5) hx dX0_lockOfRing_4 rfl rfl ?_
    refine v_aload_n (pc' := 6) hx dX0_lockOfRing_5 rfl rfl ?_
    refine v_getI (pc' := 9) hx hl0 fi_0_3.1 fi_0_3.2.1 fk_X0_40 dX0_lockOfRing_6 rfl ?_
    refine v_icmp_lt (tgt := 16) (pc' := 12) hx dX0_lockOfRing_9 (by decide) rfl (fun hc_2 => ?_) (fun hc_2 => ?_)
    · rw [if_pos hc_2] at h
      refine v_aload_n (pc' := 17) hx dX0_lockOfRing_16 rfl rfl ?_
      obtain ⟨g_3, hq_4⟩ : ∃ q, zA w 0 a0 2 = q := ⟨_, rfl⟩
      refine v_getAq (pc' := 20) hx hl0 fi_0_2.1 (by decide) hq_4 fk_X0_18 dX0_lockOfRing_17 rfl ?_
      refine v_iload_n (pc' := 21) hx dX0_lockOfRing_20 rfl rfl ?_
      replace h := ckp_inv h; obtain ⟨hk_5, h⟩ := h
      refine v_ialdq (pc' := 22) hx hl0 fi_0_2.1 fi_0_2.2.1 rfl hk_5 hq_4 dX0_lockOfRing_21 rfl ?_
      refine V.sb (L' := [none, none]) ⟨Or.inl rfl, Or.inl rfl, trivial⟩ ?_
      exact vX0_lockOfRing_b22 hx hq h
    · rw [if_neg hc_2] at h
      refine V.sb (L' := [none, none]) ⟨Or.inl rfl, Or.inl rfl, trivial⟩ ?_
      exact vX0_lockOfRing_b12 hx hq h
theorem ctX0_lockOfRing (l : Launch) (D : DD) (w : Wd) (G : GT) (sz : Nat) (hR : Rp D w G sz) (a0 : Nat) (x1 : Int32) (hl0 : zL w 0 a0 = true) {r0 : Int32} (h : fX0_lockOfRing a0 x1 w = some r0) : MetI l yX0_lockOfRing (WS yX0_lockOfRing cX0_lockOfRing 2 (some .int)) rmX0_lockOfRing D [.ref a0, .int x1] G sz r0 w := by
  refine MetI_ofV (own := RX0) (P := Rp D w) hR (by decide) rfl (by simp [Value.category]) (Nat.le_of_ble_eq_true rfl) (fun x hx hq hD hl => ?_)
  subst hD
  exact vX0_lockOfRing hx hq a0 x1 hl0 h
theorem vX5_broken {x : CT} (hx : CX x cX5_broken RX5 rmX5_broken (some .int)) {r0 : Int32} {w : Wd} (hq : RI x rmX5_broken r0 w) (a0 : Nat) (x1 : Int32) (hl0 : zL w 5 a0 = true) (h : fX5_broken a0 x1 w = some r0) : V x 0 [some (.ref a0), some (.int x1)] [] (Rp (xD x) w) 0 0 := by
  unfold fX5_broken at h
  refine v_aload_n (pc' := 1) hx dX5_broken_0 rfl rfl ?_
  refine v_getR (pc' := 4) hx hl0 fi_5_2.1 fi_5_2.2.1 fk_X5_25 dX5_broken_1 rfl ?_
  replace h := lt_inv h; obtain ⟨u_1, er_2, h⟩ := h
  rw [← er_2]
  refine v_liv hl0 (fun ht_3 => ?_)
  have hl_4 : ∀ b, u_1 = some b → zL w 0 b = true := fun b hb => ht_3 2 _ b (er_2.symm.trans hb)
  refine v_iload_n (pc' := 5) hx dX5_broken_4 rfl rfl ?_
  replace h := nn_inv h; obtain ⟨b_5, rfl, h⟩ := h
  have hl_6 : zL w 0 b_5 = true := hl_4 _ rfl
  replace h := bd_inv h; obtain ⟨y_8, hcl_7, h⟩ := h
  refine v_callVi (pc' := 8) (w' := w) (r := y_8) (ci := 0) (b := b_5) (As := [.int x1]) (rest := []) hx hl_6 (fun G sz hR => ctX0_lockOfRing (xl x) (xD x) w G sz hR b_5 x1 hl_6 hcl_7) rfl my_X0_lockOfRing ml_X5_138 ⟨by decide, by decide⟩ ⟨by decide, by decide⟩ rfl rfl (Nat.le_of_ble_eq_true rfl) dX5_broken_5 rfl ?_
  exact v_iret hx hq (by decide) (by decide) dX5_broken_8 (by cases h; rfl)
theorem ctX5_broken (l : Launch) (D : DD) (w : Wd) (G : GT) (sz : Nat) (hR : Rp D w G sz) (a0 : Nat) (x1 : Int32) (hl0 : zL w 5 a0 = true) {r0 : Int32} (h : fX5_broken a0 x1 w = some r0) : MetI l yX5_broken (WS yX5_broken cX5_broken 2 (some .int)) rmX5_broken D [.ref a0, .int x1] G sz r0 w := by
  refine MetI_ofV (own := RX5) (P := Rp D w) hR (by decide) rfl (by simp [Value.category]) (Nat.le_of_ble_eq_true rfl) (fun x hx hq hD hl => ?_)
  subst hD
  exact vX5_broken hx hq a0 x1 hl0 h
theorem kX6_aheads_b111 {w0 : Wd} {rec23 : Nat → Int32 → Wd → Option (Wd)} {a0 : Nat} {x1 : Int32} {w wb : Wd} (hkr23 : ∀ (a0 : Nat) (x1 : Int32) (w : Wd), rec23 a0 x1 w = some w0 → mo wb w → mo wb w0) (hm : mo wb w) (h : fX6_aheads_b111 rec23 a0 x1 w = some w0) : mo wb w0 := by
  unfold fX6_aheads_b111 at h
  exact hkr23 a0 (x1 + 1) w h hm
theorem kX6_aheads_b105 {w0 : Wd} {rec23 : Nat → Int32 → Wd → Option (Wd)} {rec58 : Nat → Int32 → Int32 → Wd → Option (Wd)} {a0 : Nat} {x1 : Int32} {x2 : Int32} {w wb : Wd} (hkr23 : ∀ (a0 : Nat) (x1 : Int32) (w : Wd), rec23 a0 x1 w = some w0 → mo wb w → mo wb w0) (hkr58 : ∀ (a0 : Nat) (x1 : Int32) (x2 : Int32) (w : Wd), rec58 a0 x1 x2 w = some w0 → mo wb w → mo wb w0) (hm : mo wb w) (h : fX6_aheads_b105 rec23 rec58 a0 x1 x2 w = some w0) : mo wb w0 := by
  unfold fX6_aheads_b105 at h
  exact hkr58 a0 x1 (x2 + 1) w h hm
theorem kX6_aheads_b58 {w0 : Wd} {rec23 : Nat → Int32 → Wd → Option (Wd)} {rec58 : Nat → Int32 → Int32 → Wd → Option (Wd)} {a0 : Nat} {x1 : Int32} {x2 : Int32} {w wb : Wd} (hkr23 : ∀ (a0 : Nat) (x1 : Int32) (w : Wd), rec23 a0 x1 w = some w0 → mo wb w → mo wb w0) (hkr58 : ∀ (a0 : Nat) (x1 : Int32) (x2 : Int32) (w : Wd), rec58 a0 x1 x2 w = some w0 → mo wb w → mo wb w0) (hm : mo wb w) (h : fX6_aheads_b58 rec23 rec58 a0 x1 x2 w = some w0) : mo wb w0 := by
  unfold fX6_aheads_b58 at h
  by_cases hc_1 : 16 ≤ x2
  · rw [if_pos hc_1] at h
    exact kX6_aheads_b111 hkr23 hm h
  · rw [if_neg hc_1] at h
    replace h := ckp_inv h; obtain ⟨hk_4, h⟩ := h
    by_cases hc_5 : x2 = (zI w 6 a0 11 (x1 : Int32).toNatClampNeg)
    · rw [if_pos hc_5] at h
      exact kX6_aheads_b105 hkr23 hkr58 hm h
    · rw [if_neg hc_5] at h
      replace h := ckp_inv h; obtain ⟨hk_8, h⟩ := h
      by_cases hc_9 : (((zI w 6 a0 10 (x1 : Int32).toNatClampNeg) >>> (x2 &&& 31)) &&& 1) = 1
      · rw [if_pos hc_9] at h
        replace h := ckp_inv h; obtain ⟨hk_12, h⟩ := h
        replace h := ckp_inv h; obtain ⟨hk_15, h⟩ := h
        replace h := ckp_inv h; obtain ⟨hk_16, h⟩ := h
        replace h := lt_inv h; obtain ⟨w_17, ew_18, h⟩ := h
        have hm := mo_eI hm ew_18
        exact kX6_aheads_b105 hkr23 hkr58 hm h
      · rw [if_neg hc_9] at h
        exact kX6_aheads_b105 hkr23 hkr58 hm h
theorem kX6_aheads_l58 {w0 : Wd} {rec23 : Nat → Int32 → Wd → Option (Wd)} {wb : Wd} (hkr23 : ∀ (a0 : Nat) (x1 : Int32) (w : Wd), rec23 a0 x1 w = some w0 → mo wb w → mo wb w0) : ∀ (n : Nat) (a0 : Nat) (x1 : Int32) (x2 : Int32) (w : Wd), mo wb w → fX6_aheads_l58 rec23 n a0 x1 x2 w = some w0 → mo wb w0 := by
  intro n
  induction n with
  | zero => intro a0 x1 x2 w hm h; cases h
  | succ n ih =>
    intro a0 x1 x2 w hm h
    exact kX6_aheads_b58 hkr23 (fun a0 x1 x2 w h hm => ih a0 x1 x2 w hm h) hm h
theorem kX6_aheads_b23 {w0 : Wd} {rec23 : Nat → Int32 → Wd → Option (Wd)} {a0 : Nat} {x1 : Int32} {w wb : Wd} (hkr23 : ∀ (a0 : Nat) (x1 : Int32) (w : Wd), rec23 a0 x1 w = some w0 → mo wb w → mo wb w0) (hm : mo wb w) (h : fX6_aheads_b23 rec23 a0 x1 w = some w0) : mo wb w0 := by
  unfold fX6_aheads_b23 at h
  by_cases hc_1 : (24 * (zI w 6 a0 2 0)) ≤ x1
  · rw [if_pos hc_1] at h
    cases h; exact hm
  · rw [if_neg hc_1] at h
    replace h := ckp_inv h; obtain ⟨hk_4, h⟩ := h
    by_cases hc_5 : (zI w 6 a0 7 (x1 : Int32).toNatClampNeg) = 0
    · rw [if_pos hc_5] at h
      exact kX6_aheads_b111 hkr23 hm h
    · rw [if_neg hc_5] at h
      replace h := ckp_inv h; obtain ⟨hk_8, h⟩ := h
      by_cases hc_9 : (zI w 6 a0 11 (x1 : Int32).toNatClampNeg) = (-1)
      · rw [if_pos hc_9] at h
        exact kX6_aheads_b111 hkr23 hm h
      · rw [if_neg hc_9] at h
        exact kX6_aheads_l58 hkr23 1000 a0 x1 0 w hm h
theorem kX6_aheads_l23 {w0 : Wd} {wb : Wd} : ∀ (n : Nat) (a0 : Nat) (x1 : Int32) (w : Wd), mo wb w → fX6_aheads_l23  n a0 x1 w = some w0 → mo wb w0 := by
  intro n
  induction n with
  | zero => intro a0 x1 w hm h; cases h
  | succ n ih =>
    intro a0 x1 w hm h
    exact kX6_aheads_b23  (fun a0 x1 w h hm => ih a0 x1 w hm h) hm h
theorem kX6_aheads_b2 {w0 : Wd} {rec2 : Nat → Int32 → Wd → Option (Wd)} {a0 : Nat} {x1 : Int32} {w wb : Wd} (hkr2 : ∀ (a0 : Nat) (x1 : Int32) (w : Wd), rec2 a0 x1 w = some w0 → mo wb w → mo wb w0) (hm : mo wb w) (h : fX6_aheads_b2 rec2 a0 x1 w = some w0) : mo wb w0 := by
  unfold fX6_aheads_b2 at h
  by_cases hc_1 : 16 ≤ x1
  · rw [if_pos hc_1] at h
    exact kX6_aheads_l23 1000 a0 0 w hm h
  · rw [if_neg hc_1] at h
    replace h := ckp_inv h; obtain ⟨hk_4, h⟩ := h
    replace h := lt_inv h; obtain ⟨w_5, ew_6, h⟩ := h
    have hm := mo_eI hm ew_6
    exact hkr2 a0 (x1 + 1) w_5 h hm
theorem kX6_aheads_l2 {w0 : Wd} {wb : Wd} : ∀ (n : Nat) (a0 : Nat) (x1 : Int32) (w : Wd), mo wb w → fX6_aheads_l2  n a0 x1 w = some w0 → mo wb w0 := by
  intro n
  induction n with
  | zero => intro a0 x1 w hm h; cases h
  | succ n ih =>
    intro a0 x1 w hm h
    exact kX6_aheads_b2  (fun a0 x1 w h hm => ih a0 x1 w hm h) hm h
theorem kX6_aheads {w0 : Wd} {a0 : Nat} {w : Wd} (h : fX6_aheads a0 w = some w0) : mo w w0 := by
  have hm := mo_rf w
  unfold fX6_aheads at h
  exact kX6_aheads_l2 1000 a0 0 w hm h
theorem vX6_aheads_b111 {x : CT} (hx : CX x cX6_aheads RX6 rmX6_aheads none) {w0 : Wd} (hq : RV x rmX6_aheads w0) {rec23 : Nat → Int32 → Wd → Option (Wd)} {a0 : Nat} {x1 : Int32} {w : Wd} (hrec23 : ∀ (a0 : Nat) (x1 : Int32) (w : Wd), rec23 a0 x1 w = some w0 → (zL w 6 a0 = true) → V x 23 [some (.ref a0), some (.int x1), none] [] (Rp (xD x) w) 0 0) (hl0 : zL w 6 a0 = true) (h : fX6_aheads_b111 rec23 a0 x1 w = some w0) : V x 111 [some (.ref a0), some (.int x1), none] [] (Rp (xD x) w) 0 0 := by
  unfold fX6_aheads_b111 at h
  refine v_iinc (pc' := 114) (w0 := (x1 + 1)) (L' := [some (.ref a0), some (.int (x1 + 1)), none]) hx dX6_aheads_111 rfl rfl rfl rfl ?_
  refine v_goto (tgt := 23) hx dX6_aheads_114 (by decide) ?_
  exact hrec23 a0 (x1 + 1) w h hl0
theorem vX6_aheads_b105 {x : CT} (hx : CX x cX6_aheads RX6 rmX6_aheads none) {w0 : Wd} (hq : RV x rmX6_aheads w0) {rec23 : Nat → Int32 → Wd → Option (Wd)} {rec58 : Nat → Int32 → Int32 → Wd → Option (Wd)} {a0 : Nat} {x1 : Int32} {x2 : Int32} {w : Wd} (hrec23 : ∀ (a0 : Nat) (x1 : Int32) (w : Wd), rec23 a0 x1 w = some w0 → (zL w 6 a0 = true) → V x 23 [some (.ref a0), some (.int x1), none] [] (Rp (xD x) w) 0 0) (hrec58 : ∀ (a0 : Nat) (x1 : Int32) (x2 : Int32) (w : Wd), rec58 a0 x1 x2 w = some w0 → (zL w 6 a0 = true) → V x 58 [some (.ref a0), some (.int x1), some (.int x2)] [] (Rp (xD x) w) 0 0) (hl0 : zL w 6 a0 = true) (h : fX6_aheads_b105 rec23 rec58 a0 x1 x2 w = some w0) : V x 105 [some (.ref a0), some (.int x1), some (.int x2)] [] (Rp (xD x) w) 0 0 := by
  unfold fX6_aheads_b105 at h
  refine v_iinc (pc' := 108) (w0 := (x2 + 1)) (L' := [some (.ref a0), some (.int x1), some (.int (x2 + 1))]) hx dX6_aheads_105 rfl rfl rfl rfl ?_
  refine v_goto (tgt := 58) hx dX6_aheads_108 (by decide) ?_
  exact hrec58 a0 x1 (x2 + 1) w h hl0
theorem vX6_aheads_b58 {x : CT} (hx : CX x cX6_aheads RX6 rmX6_aheads none) {w0 : Wd} (hq : RV x rmX6_aheads w0) {rec23 : Nat → Int32 → Wd → Option (Wd)} {rec58 : Nat → Int32 → Int32 → Wd → Option (Wd)} {a0 : Nat} {x1 : Int32} {x2 : Int32} {w : Wd} (hrec23 : ∀ (a0 : Nat) (x1 : Int32) (w : Wd), rec23 a0 x1 w = some w0 → (zL w 6 a0 = true) → V x 23 [some (.ref a0), some (.int x1), none] [] (Rp (xD x) w) 0 0) (hrec58 : ∀ (a0 : Nat) (x1 : Int32) (x2 : Int32) (w : Wd), rec58 a0 x1 x2 w = some w0 → (zL w 6 a0 = true) → V x 58 [some (.ref a0), some (.int x1), some (.int x2)] [] (Rp (xD x) w) 0 0) (hl0 : zL w 6 a0 = true) (h : fX6_aheads_b58 rec23 rec58 a0 x1 x2 w = some w0) : V x 58 [some (.ref a0), some (.int x1), some (.int x2)] [] (Rp (xD x) w) 0 0 := by
  unfold fX6_aheads_b58 at h
  refine v_iload_n (pc' := 59) hx dX6_aheads_58 rfl rfl ?_
  refine v_bipush (pc' := 61) (v := 16) hx dX6_aheads_59 (by decide) rfl ?_
  refine v_icmp_ge (tgt := 111) (pc' := 64) hx dX6_aheads_61 (by decide) rfl (fun hc_1 => ?_) (fun hc_1 => ?_)
  · rw [if_pos hc_1] at h
    refine V.sb (L' := [some (.ref a0), some (.int x1), none]) ⟨Or.inr rfl, Or.inr rfl, Or.inl rfl, trivial⟩ ?_
    exact vX6_aheads_b111 hx hq hrec23 hl0 h
  · rw [if_neg hc_1] at h
    refine v_iload_n (pc' := 65) hx dX6_aheads_64 rfl rfl ?_
    refine v_aload_n (pc' := 66) hx dX6_aheads_65 rfl rfl ?_
    obtain ⟨g_2, hq_3⟩ : ∃ q, zA w 6 a0 11 = q := ⟨_, rfl⟩
    refine v_getAq (pc' := 69) hx hl0 fi_6_11.1 (by decide) hq_3 fk_X6_40 dX6_aheads_66 rfl ?_
    refine v_iload_n (pc' := 70) hx dX6_aheads_69 rfl rfl ?_
    replace h := ckp_inv h; obtain ⟨hk_4, h⟩ := h
    refine v_ialdq (pc' := 71) hx hl0 fi_6_11.1 fi_6_11.2.1 rfl hk_4 hq_3 dX6_aheads_70 rfl ?_
    refine v_icmp_eq (tgt := 105) (pc' := 74) hx dX6_aheads_71 (by decide) rfl (fun hc_5 => ?_) (fun hc_5 => ?_)
    · rw [if_pos hc_5] at h
      exact vX6_aheads_b105 hx hq hrec23 hrec58 hl0 h
    · rw [if_neg hc_5] at h
      refine v_aload_n (pc' := 75) hx dX6_aheads_74 rfl rfl ?_
      obtain ⟨g_6, hq_7⟩ : ∃ q, zA w 6 a0 10 = q := ⟨_, rfl⟩
      refine v_getAq (pc' := 78) hx hl0 fi_6_10.1 (by decide) hq_7 fk_X6_37 dX6_aheads_75 rfl ?_
      refine v_iload_n (pc' := 79) hx dX6_aheads_78 rfl rfl ?_
      replace h := ckp_inv h; obtain ⟨hk_8, h⟩ := h
      refine v_ialdq (pc' := 80) hx hl0 fi_6_10.1 fi_6_10.2.1 rfl hk_8 hq_7 dX6_aheads_79 rfl ?_
      refine v_iload_n (pc' := 81) hx dX6_aheads_80 rfl rfl ?_
      refine v_ishr (pc' := 82) hx dX6_aheads_81 rfl ?_
      refine v_iconst (pc' := 83) (v := 1) hx dX6_aheads_82 (by decide) rfl ?_
      refine v_iand (pc' := 84) hx dX6_aheads_83 rfl ?_
      refine v_iconst (pc' := 85) (v := 1) hx dX6_aheads_84 (by decide) rfl ?_
      refine v_icmp_ne (tgt := 105) (pc' := 88) hx dX6_aheads_85 (by decide) rfl (fun hc_9 => ?_) (fun hc_9 => ?_)
      · rw [if_neg hc_9] at h
        exact vX6_aheads_b105 hx hq hrec23 hrec58 hl0 h
      · rw [if_pos hc_9] at h
        refine v_aload_n (pc' := 89) hx dX6_aheads_88 rfl rfl ?_
        obtain ⟨g_10, hq_11⟩ : ∃ q, zA w 6 a0 25 = q := ⟨_, rfl⟩
        refine v_getAq (pc' := 92) hx hl0 fi_6_25.1 (by decide) hq_11 fk_X6_52 dX6_aheads_89 rfl ?_
        refine v_iload_n (pc' := 93) hx dX6_aheads_92 rfl rfl ?_
        refine v_dup2 (pc' := 94) hx dX6_aheads_93 rfl rfl rfl ?_
        replace h := ckp_inv h; obtain ⟨hk_12, h⟩ := h
        refine v_ialdq (pc' := 95) hx hl0 fi_6_25.1 fi_6_25.2.1 rfl hk_12 hq_11 dX6_aheads_94 rfl ?_
        refine v_iconst (pc' := 96) (v := 1) hx dX6_aheads_95 (by decide) rfl ?_
        refine v_aload_n (pc' := 97) hx dX6_aheads_96 rfl rfl ?_
        obtain ⟨g_13, hq_14⟩ : ∃ q, zA w 6 a0 11 = q := ⟨_, rfl⟩
        refine v_getAq (pc' := 100) hx hl0 fi_6_11.1 (by decide) hq_14 fk_X6_40 dX6_aheads_97 rfl ?_
        refine v_iload_n (pc' := 101) hx dX6_aheads_100 rfl rfl ?_
        replace h := ckp_inv h; obtain ⟨hk_15, h⟩ := h
        refine v_ialdq (pc' := 102) hx hl0 fi_6_11.1 fi_6_11.2.1 rfl hk_15 hq_14 dX6_aheads_101 rfl ?_
        refine v_ishl (pc' := 103) hx dX6_aheads_102 rfl ?_
        refine v_ior (pc' := 104) hx dX6_aheads_103 rfl ?_
        replace h := ckp_inv h; obtain ⟨hk_16, h⟩ := h
        refine v_iastq (pc' := 105) hx hl0 fi_6_25.1 fi_6_25.2.1 rfl hk_16 hq_11 dX6_aheads_104 rfl ?_
        replace h := lt_inv h; obtain ⟨w_17, ew_18, h⟩ := h
        rw [← ew_18]
        have hl_19 : zL w_17 6 a0 = true := by rw [ew_18]; exact hl0
        exact vX6_aheads_b105 hx hq hrec23 hrec58 hl_19 h
theorem vX6_aheads_l58 {x : CT} (hx : CX x cX6_aheads RX6 rmX6_aheads none) {w0 : Wd} (hq : RV x rmX6_aheads w0) {rec23 : Nat → Int32 → Wd → Option (Wd)} (hrec23 : ∀ (a0 : Nat) (x1 : Int32) (w : Wd), rec23 a0 x1 w = some w0 → (zL w 6 a0 = true) → V x 23 [some (.ref a0), some (.int x1), none] [] (Rp (xD x) w) 0 0) : ∀ (n : Nat) (a0 : Nat) (x1 : Int32) (x2 : Int32) (w : Wd), (zL w 6 a0 = true) → fX6_aheads_l58 rec23 n a0 x1 x2 w = some w0 → V x 58 [some (.ref a0), some (.int x1), some (.int x2)] [] (Rp (xD x) w) 0 0 := by
  intro n
  induction n with
  | zero => intro a0 x1 x2 w hl0 h; cases h
  | succ n ih =>
    intro a0 x1 x2 w hl0 h
    exact vX6_aheads_b58 hx hq hrec23 (fun a0 x1 x2 w h hl0 => ih a0 x1 x2 w hl0 h) hl0 h
theorem vX6_aheads_b23 {x : CT} (hx : CX x cX6_aheads RX6 rmX6_aheads none) {w0 : Wd} (hq : RV x rmX6_aheads w0) {rec23 : Nat → Int32 → Wd → Option (Wd)} {a0 : Nat} {x1 : Int32} {w : Wd} (hrec23 : ∀ (a0 : Nat) (x1 : Int32) (w : Wd), rec23 a0 x1 w = some w0 → (zL w 6 a0 = true) → V x 23 [some (.ref a0), some (.int x1), none] [] (Rp (xD x) w) 0 0) (hl0 : zL w 6 a0 = true) (h : fX6_aheads_b23 rec23 a0 x1 w = some w0) : V x 23 [some (.ref a0), some (.int x1), none] [] (Rp (xD x) w) 0 0 := by
  unfold fX6_aheads_b23 at h
  refine v_iload_n (pc' := 24) hx dX6_aheads_23 rfl rfl ?_
  refine v_bipush (pc' := 26) (v := 24) hx dX6_aheads_24 (by decide) rfl ?_
  refine v_aload_n (pc' := 27) hx dX6_aheads_26 rfl rfl ?_
  refine v_getI (pc' := 30) hx hl0 fi_6_2.1 fi_6_2.2.1 fk_X6_136 dX6_aheads_27 rfl ?_
  refine v_imul (pc' := 31) hx dX6_aheads_30 rfl ?_
  refine v_icmp_ge (tgt := 117) (pc' := 34) hx dX6_aheads_31 (by decide) rfl (fun hc_1 => ?_) (fun hc_1 => ?_)
  · rw [if_pos hc_1] at h
    exact v_vret hx hq (by decide) (by decide) dX6_aheads_117 (by cases h; rfl)
  · rw [if_neg hc_1] at h
    refine v_aload_n (pc' := 35) hx dX6_aheads_34 rfl rfl ?_
    obtain ⟨g_2, hq_3⟩ : ∃ q, zA w 6 a0 7 = q := ⟨_, rfl⟩
    refine v_getAq (pc' := 38) hx hl0 fi_6_7.1 (by decide) hq_3 fk_X6_27 dX6_aheads_35 rfl ?_
    refine v_iload_n (pc' := 39) hx dX6_aheads_38 rfl rfl ?_
    replace h := ckp_inv h; obtain ⟨hk_4, h⟩ := h
    refine v_zaldq (pc' := 40) hx hl0 fi_6_7.1 fi_6_7.2.1 rfl hk_4 hq_3 dX6_aheads_39 rfl ?_
    refine v_if_eq (tgt := 111) (pc' := 43) hx dX6_aheads_40 (by decide) rfl (fun hc_5 => ?_) (fun hc_5 => ?_)
    · rw [if_pos hc_5] at h
      exact vX6_aheads_b111 hx hq hrec23 hl0 h
    · rw [if_neg hc_5] at h
      refine v_aload_n (pc' := 44) hx dX6_aheads_43 rfl rfl ?_
      obtain ⟨g_6, hq_7⟩ : ∃ q, zA w 6 a0 11 = q := ⟨_, rfl⟩
      refine v_getAq (pc' := 47) hx hl0 fi_6_11.1 (by decide) hq_7 fk_X6_40 dX6_aheads_44 rfl ?_
      refine v_iload_n (pc' := 48) hx dX6_aheads_47 rfl rfl ?_
      replace h := ckp_inv h; obtain ⟨hk_8, h⟩ := h
      refine v_ialdq (pc' := 49) hx hl0 fi_6_11.1 fi_6_11.2.1 rfl hk_8 hq_7 dX6_aheads_48 rfl ?_
      refine v_iconst (pc' := 50) (v := (-1)) hx dX6_aheads_49 (by decide) rfl ?_
      refine v_icmp_ne (tgt := 56) (pc' := 53) hx dX6_aheads_50 (by decide) rfl (fun hc_9 => ?_) (fun hc_9 => ?_)
      · rw [if_neg hc_9] at h
        refine v_iconst (pc' := 57) (v := 0) hx dX6_aheads_56 (by decide) rfl ?_
        refine v_istore_n (pc' := 58) (L' := [some (.ref a0), some (.int x1), some (.int 0)]) hx dX6_aheads_57 rfl rfl (Nat.le_of_ble_eq_true rfl) ?_
        exact vX6_aheads_l58 hx hq hrec23 1000 a0 x1 0 w hl0 h
      · rw [if_pos hc_9] at h
        refine v_goto (tgt := 111) hx dX6_aheads_53 (by decide) ?_
        exact vX6_aheads_b111 hx hq hrec23 hl0 h
theorem vX6_aheads_l23 {x : CT} (hx : CX x cX6_aheads RX6 rmX6_aheads none) {w0 : Wd} (hq : RV x rmX6_aheads w0) : ∀ (n : Nat) (a0 : Nat) (x1 : Int32) (w : Wd), (zL w 6 a0 = true) → fX6_aheads_l23  n a0 x1 w = some w0 → V x 23 [some (.ref a0), some (.int x1), none] [] (Rp (xD x) w) 0 0 := by
  intro n
  induction n with
  | zero => intro a0 x1 w hl0 h; cases h
  | succ n ih =>
    intro a0 x1 w hl0 h
    exact vX6_aheads_b23 hx hq  (fun a0 x1 w h hl0 => ih a0 x1 w hl0 h) hl0 h
theorem vX6_aheads_b2 {x : CT} (hx : CX x cX6_aheads RX6 rmX6_aheads none) {w0 : Wd} (hq : RV x rmX6_aheads w0) {rec2 : Nat → Int32 → Wd → Option (Wd)} {a0 : Nat} {x1 : Int32} {w : Wd} (hrec2 : ∀ (a0 : Nat) (x1 : Int32) (w : Wd), rec2 a0 x1 w = some w0 → (zL w 6 a0 = true) → V x 2 [some (.ref a0), some (.int x1), none] [] (Rp (xD x) w) 0 0) (hl0 : zL w 6 a0 = true) (h : fX6_aheads_b2 rec2 a0 x1 w = some w0) : V x 2 [some (.ref a0), some (.int x1), none] [] (Rp (xD x) w) 0 0 := by
  unfold fX6_aheads_b2 at h
  refine v_iload_n (pc' := 3) hx dX6_aheads_2 rfl rfl ?_
  refine v_bipush (pc' := 5) (v := 16) hx dX6_aheads_3 (by decide) rfl ?_
  refine v_icmp_ge (tgt := 21) (pc' := 8) hx dX6_aheads_5 (by decide) rfl (fun hc_1 => ?_) (fun hc_1 => ?_)
  · rw [if_pos hc_1] at h
    refine v_iconst (pc' := 22) (v := 0) hx dX6_aheads_21 (by decide) rfl ?_
    refine v_istore_n (pc' := 23) (L' := [some (.ref a0), some (.int 0), none]) hx dX6_aheads_22 rfl rfl (Nat.le_of_ble_eq_true rfl) ?_
    exact vX6_aheads_l23 hx hq 1000 a0 0 w hl0 h
  · rw [if_neg hc_1] at h
    refine v_aload_n (pc' := 9) hx dX6_aheads_8 rfl rfl ?_
    obtain ⟨g_2, hq_3⟩ : ∃ q, zA w 6 a0 25 = q := ⟨_, rfl⟩
    refine v_getAq (pc' := 12) hx hl0 fi_6_25.1 (by decide) hq_3 fk_X6_52 dX6_aheads_9 rfl ?_
    refine v_iload_n (pc' := 13) hx dX6_aheads_12 rfl rfl ?_
    refine v_iconst (pc' := 14) (v := 0) hx dX6_aheads_13 (by decide) rfl ?_
    replace h := ckp_inv h; obtain ⟨hk_4, h⟩ := h
    refine v_iastq (pc' := 15) hx hl0 fi_6_25.1 fi_6_25.2.1 rfl hk_4 hq_3 dX6_aheads_14 rfl ?_
    replace h := lt_inv h; obtain ⟨w_5, ew_6, h⟩ := h
    rw [← ew_6]
    have hl_7 : zL w_5 6 a0 = true := by rw [ew_6]; exact hl0
    refine v_iinc (pc' := 18) (w0 := (x1 + 1)) (L' := [some (.ref a0), some (.int (x1 + 1)), none]) hx dX6_aheads_15 rfl rfl rfl rfl ?_
    refine v_goto (tgt := 2) hx dX6_aheads_18 (by decide) ?_
    exact hrec2 a0 (x1 + 1) w_5 h hl_7
theorem vX6_aheads_l2 {x : CT} (hx : CX x cX6_aheads RX6 rmX6_aheads none) {w0 : Wd} (hq : RV x rmX6_aheads w0) : ∀ (n : Nat) (a0 : Nat) (x1 : Int32) (w : Wd), (zL w 6 a0 = true) → fX6_aheads_l2  n a0 x1 w = some w0 → V x 2 [some (.ref a0), some (.int x1), none] [] (Rp (xD x) w) 0 0 := by
  intro n
  induction n with
  | zero => intro a0 x1 w hl0 h; cases h
  | succ n ih =>
    intro a0 x1 w hl0 h
    exact vX6_aheads_b2 hx hq  (fun a0 x1 w h hl0 => ih a0 x1 w hl0 h) hl0 h
theorem vX6_aheads {x : CT} (hx : CX x cX6_aheads RX6 rmX6_aheads none) {w0 : Wd} {w : Wd} (hq : RV x rmX6_aheads w0) (a0 : Nat) (hl0 : zL w 6 a0 = true) (h : fX6_aheads a0 w = some w0) : V x 0 [some (.ref a0), none, none] [] (Rp (xD x) w) 0 0 := by
  unfold fX6_aheads at h
  refine v_iconst (pc' := 1) (v := 0) hx dX6_aheads_0 (by decide) rfl ?_
  refine v_istore_n (pc' := 2) (L' := [some (.ref a0), some (.int 0), none]) hx dX6_aheads_1 rfl rfl (Nat.le_of_ble_eq_true rfl) ?_
  exact vX6_aheads_l2 hx hq 1000 a0 0 w hl0 h
theorem ctX6_aheads (l : Launch) (D : DD) (w : Wd) (G : GT) (sz : Nat) (hR : Rp D w G sz) (a0 : Nat) (hl0 : zL w 6 a0 = true) {w0 : Wd} (h : fX6_aheads a0 w = some w0) : MetV l yX6_aheads (WS yX6_aheads cX6_aheads 3 none) rmX6_aheads D [.ref a0] G sz w0 := by
  refine MetV_ofV (own := RX6) (P := Rp D w) hR (by decide) rfl (by simp [Value.category]) (Nat.le_of_ble_eq_true rfl) (fun x hx hq hD hl => ?_)
  subst hD
  exact vX6_aheads hx hq a0 hl0 h
theorem kX6_measures_b221 {r0 : Int32} {w0 : Wd} {rec180 : Nat → Int32 → Int32 → Int32 → Wd → Option (Int32 × Wd)} {a0 : Nat} {x1 : Int32} {x2 : Int32} {x3 : Int32} {w wb : Wd} (hkr180 : ∀ (a0 : Nat) (x1 : Int32) (x2 : Int32) (x3 : Int32) (w : Wd), rec180 a0 x1 x2 x3 w = some (r0, w0) → mo wb w → mo wb w0) (hm : mo wb w) (h : fX6_measures_b221 rec180 a0 x1 x2 x3 w = some (r0, w0)) : mo wb w0 := by
  unfold fX6_measures_b221 at h
  exact hkr180 a0 x1 x2 (x3 + 1) w h hm
theorem kX6_measures_b180 {r0 : Int32} {w0 : Wd} {rec180 : Nat → Int32 → Int32 → Int32 → Wd → Option (Int32 × Wd)} {a0 : Nat} {x1 : Int32} {x2 : Int32} {x3 : Int32} {w wb : Wd} (hkr180 : ∀ (a0 : Nat) (x1 : Int32) (x2 : Int32) (x3 : Int32) (w : Wd), rec180 a0 x1 x2 x3 w = some (r0, w0) → mo wb w → mo wb w0) (hm : mo wb w) (h : fX6_measures_b180 rec180 a0 x1 x2 x3 w = some (r0, w0)) : mo wb w0 := by
  unfold fX6_measures_b180 at h
  by_cases hc_1 : 16 ≤ x3
  · rw [if_pos hc_1] at h
    cases h; exact hm
  · rw [if_neg hc_1] at h
    replace h := ckp_inv h; obtain ⟨hk_4, h⟩ := h
    by_cases hc_5 : (((zI w 6 a0 25 (x1 : Int32).toNatClampNeg) >>> (x3 &&& 31)) &&& 1) = 1
    · rw [if_pos hc_5] at h
      replace h := ckp_inv h; obtain ⟨hk_8, h⟩ := h
      by_cases hc_9 : x2 ≤ ((zI w 6 a0 26 (x3 : Int32).toNatClampNeg) + 1)
      · rw [if_pos hc_9] at h
        exact kX6_measures_b221 hkr180 hm h
      · rw [if_neg hc_9] at h
        replace h := ckp_inv h; obtain ⟨hk_12, h⟩ := h
        exact kX6_measures_b221 hkr180 hm h
    · rw [if_neg hc_5] at h
      exact kX6_measures_b221 hkr180 hm h
theorem kX6_measures_l180 {r0 : Int32} {w0 : Wd} {wb : Wd} : ∀ (n : Nat) (a0 : Nat) (x1 : Int32) (x2 : Int32) (x3 : Int32) (w : Wd), mo wb w → fX6_measures_l180  n a0 x1 x2 x3 w = some (r0, w0) → mo wb w0 := by
  intro n
  induction n with
  | zero => intro a0 x1 x2 x3 w hm h; cases h
  | succ n ih =>
    intro a0 x1 x2 x3 w hm h
    exact kX6_measures_b180  (fun a0 x1 x2 x3 w h hm => ih a0 x1 x2 x3 w hm h) hm h
theorem kX6_measures_b164 {r0 : Int32} {w0 : Wd} {rec27 : Nat → Int32 → Int32 → Int32 → Wd → Option (Int32 × Wd)} {rec38 : Nat → Int32 → Int32 → Int32 → Int32 → Wd → Option (Int32 × Wd)} {a0 : Nat} {x1 : Int32} {x2 : Int32} {x3 : Int32} {x4 : Int32} {w wb : Wd} (hkr27 : ∀ (a0 : Nat) (x1 : Int32) (x2 : Int32) (x3 : Int32) (w : Wd), rec27 a0 x1 x2 x3 w = some (r0, w0) → mo wb w → mo wb w0) (hkr38 : ∀ (a0 : Nat) (x1 : Int32) (x2 : Int32) (x3 : Int32) (x4 : Int32) (w : Wd), rec38 a0 x1 x2 x3 x4 w = some (r0, w0) → mo wb w → mo wb w0) (hm : mo wb w) (h : fX6_measures_b164 rec27 rec38 a0 x1 x2 x3 x4 w = some (r0, w0)) : mo wb w0 := by
  unfold fX6_measures_b164 at h
  exact hkr38 a0 x1 x2 x3 (x4 + 1) w h hm
theorem kX6_measures_b151 {r0 : Int32} {w0 : Wd} {rec27 : Nat → Int32 → Int32 → Int32 → Wd → Option (Int32 × Wd)} {rec38 : Nat → Int32 → Int32 → Int32 → Int32 → Wd → Option (Int32 × Wd)} {a0 : Nat} {x1 : Int32} {x2 : Int32} {x3 : Int32} {x4 : Int32} {x5 : Int32} {w wb : Wd} (hkr27 : ∀ (a0 : Nat) (x1 : Int32) (x2 : Int32) (x3 : Int32) (w : Wd), rec27 a0 x1 x2 x3 w = some (r0, w0) → mo wb w → mo wb w0) (hkr38 : ∀ (a0 : Nat) (x1 : Int32) (x2 : Int32) (x3 : Int32) (x4 : Int32) (w : Wd), rec38 a0 x1 x2 x3 x4 w = some (r0, w0) → mo wb w → mo wb w0) (hm : mo wb w) (h : fX6_measures_b151 rec27 rec38 a0 x1 x2 x3 x4 x5 w = some (r0, w0)) : mo wb w0 := by
  unfold fX6_measures_b151 at h
  by_cases hc_1 : x5 = 0
  · rw [if_pos hc_1] at h
    exact kX6_measures_b164 hkr27 hkr38 hm h
  · rw [if_neg hc_1] at h
    replace h := ckp_inv h; obtain ⟨hk_4, h⟩ := h
    replace h := lt_inv h; obtain ⟨w_5, ew_6, h⟩ := h
    have hm := mo_eI hm ew_6
    exact kX6_measures_b164 hkr27 hkr38 hm h
theorem kX6_measures_b143 {r0 : Int32} {w0 : Wd} {rec27 : Nat → Int32 → Int32 → Int32 → Wd → Option (Int32 × Wd)} {rec38 : Nat → Int32 → Int32 → Int32 → Int32 → Wd → Option (Int32 × Wd)} {rec92 : Nat → Int32 → Int32 → Int32 → Int32 → Int32 → Int32 → Wd → Option (Int32 × Wd)} {a0 : Nat} {x1 : Int32} {x2 : Int32} {x3 : Int32} {x4 : Int32} {x6 : Int32} {xs0 : Int32} {w wb : Wd} (hkr27 : ∀ (a0 : Nat) (x1 : Int32) (x2 : Int32) (x3 : Int32) (w : Wd), rec27 a0 x1 x2 x3 w = some (r0, w0) → mo wb w → mo wb w0) (hkr38 : ∀ (a0 : Nat) (x1 : Int32) (x2 : Int32) (x3 : Int32) (x4 : Int32) (w : Wd), rec38 a0 x1 x2 x3 x4 w = some (r0, w0) → mo wb w → mo wb w0) (hkr92 : ∀ (a0 : Nat) (x1 : Int32) (x2 : Int32) (x3 : Int32) (x4 : Int32) (x5 : Int32) (x6 : Int32) (w : Wd), rec92 a0 x1 x2 x3 x4 x5 x6 w = some (r0, w0) → mo wb w → mo wb w0) (hm : mo wb w) (h : fX6_measures_b143 rec27 rec38 rec92 a0 x1 x2 x3 x4 x6 xs0 w = some (r0, w0)) : mo wb w0 := by
  unfold fX6_measures_b143 at h
  exact hkr92 a0 x1 x2 x3 x4 xs0 (x6 + 1) w h hm
theorem kX6_measures_b142 {r0 : Int32} {w0 : Wd} {rec27 : Nat → Int32 → Int32 → Int32 → Wd → Option (Int32 × Wd)} {rec38 : Nat → Int32 → Int32 → Int32 → Int32 → Wd → Option (Int32 × Wd)} {rec92 : Nat → Int32 → Int32 → Int32 → Int32 → Int32 → Int32 → Wd → Option (Int32 × Wd)} {a0 : Nat} {x1 : Int32} {x2 : Int32} {x3 : Int32} {x4 : Int32} {x6 : Int32} {w wb : Wd} (hkr27 : ∀ (a0 : Nat) (x1 : Int32) (x2 : Int32) (x3 : Int32) (w : Wd), rec27 a0 x1 x2 x3 w = some (r0, w0) → mo wb w → mo wb w0) (hkr38 : ∀ (a0 : Nat) (x1 : Int32) (x2 : Int32) (x3 : Int32) (x4 : Int32) (w : Wd), rec38 a0 x1 x2 x3 x4 w = some (r0, w0) → mo wb w → mo wb w0) (hkr92 : ∀ (a0 : Nat) (x1 : Int32) (x2 : Int32) (x3 : Int32) (x4 : Int32) (x5 : Int32) (x6 : Int32) (w : Wd), rec92 a0 x1 x2 x3 x4 x5 x6 w = some (r0, w0) → mo wb w → mo wb w0) (hm : mo wb w) (h : fX6_measures_b142 rec27 rec38 rec92 a0 x1 x2 x3 x4 x6 w = some (r0, w0)) : mo wb w0 := by
  unfold fX6_measures_b142 at h
  exact kX6_measures_b143 hkr27 hkr38 hkr92 hm h
theorem kX6_measures_b138 {r0 : Int32} {w0 : Wd} {rec27 : Nat → Int32 → Int32 → Int32 → Wd → Option (Int32 × Wd)} {rec38 : Nat → Int32 → Int32 → Int32 → Int32 → Wd → Option (Int32 × Wd)} {rec92 : Nat → Int32 → Int32 → Int32 → Int32 → Int32 → Int32 → Wd → Option (Int32 × Wd)} {a0 : Nat} {x1 : Int32} {x2 : Int32} {x3 : Int32} {x4 : Int32} {x6 : Int32} {w wb : Wd} (hkr27 : ∀ (a0 : Nat) (x1 : Int32) (x2 : Int32) (x3 : Int32) (w : Wd), rec27 a0 x1 x2 x3 w = some (r0, w0) → mo wb w → mo wb w0) (hkr38 : ∀ (a0 : Nat) (x1 : Int32) (x2 : Int32) (x3 : Int32) (x4 : Int32) (w : Wd), rec38 a0 x1 x2 x3 x4 w = some (r0, w0) → mo wb w → mo wb w0) (hkr92 : ∀ (a0 : Nat) (x1 : Int32) (x2 : Int32) (x3 : Int32) (x4 : Int32) (x5 : Int32) (x6 : Int32) (w : Wd), rec92 a0 x1 x2 x3 x4 x5 x6 w = some (r0, w0) → mo wb w → mo wb w0) (hm : mo wb w) (h : fX6_measures_b138 rec27 rec38 rec92 a0 x1 x2 x3 x4 x6 w = some (r0, w0)) : mo wb w0 := by
  unfold fX6_measures_b138 at h
  exact kX6_measures_b143 hkr27 hkr38 hkr92 hm h
theorem kX6_measures_b92 {r0 : Int32} {w0 : Wd} {rec27 : Nat → Int32 → Int32 → Int32 → Wd → Option (Int32 × Wd)} {rec38 : Nat → Int32 → Int32 → Int32 → Int32 → Wd → Option (Int32 × Wd)} {rec92 : Nat → Int32 → Int32 → Int32 → Int32 → Int32 → Int32 → Wd → Option (Int32 × Wd)} {a0 : Nat} {x1 : Int32} {x2 : Int32} {x3 : Int32} {x4 : Int32} {x5 : Int32} {x6 : Int32} {w wb : Wd} (hkr27 : ∀ (a0 : Nat) (x1 : Int32) (x2 : Int32) (x3 : Int32) (w : Wd), rec27 a0 x1 x2 x3 w = some (r0, w0) → mo wb w → mo wb w0) (hkr38 : ∀ (a0 : Nat) (x1 : Int32) (x2 : Int32) (x3 : Int32) (x4 : Int32) (w : Wd), rec38 a0 x1 x2 x3 x4 w = some (r0, w0) → mo wb w → mo wb w0) (hkr92 : ∀ (a0 : Nat) (x1 : Int32) (x2 : Int32) (x3 : Int32) (x4 : Int32) (x5 : Int32) (x6 : Int32) (w : Wd), rec92 a0 x1 x2 x3 x4 x5 x6 w = some (r0, w0) → mo wb w → mo wb w0) (hm : mo wb w) (h : fX6_measures_b92 rec27 rec38 rec92 a0 x1 x2 x3 x4 x5 x6 w = some (r0, w0)) : mo wb w0 := by
  unfold fX6_measures_b92 at h
  by_cases hc_1 : 16 ≤ x6
  · rw [if_pos hc_1] at h
    exact kX6_measures_b151 hkr27 hkr38 hm h
  · rw [if_neg hc_1] at h
    by_cases hc_2 : x3 ≤ 1
    · rw [if_pos hc_2] at h
      exact kX6_measures_b151 hkr27 hkr38 hm h
    · rw [if_neg hc_2] at h
      by_cases hc_3 : x5 = 0
      · rw [if_pos hc_3] at h
        replace h := ckp_inv h; obtain ⟨hk_6, h⟩ := h
        by_cases hc_7 : (((zI w 6 a0 25 (x4 : Int32).toNatClampNeg) >>> (x6 &&& 31)) &&& 1) = 1
        · rw [if_pos hc_7] at h
          replace h := ckp_inv h; obtain ⟨hk_10, h⟩ := h
          by_cases hc_11 : (zI w 6 a0 26 (x6 : Int32).toNatClampNeg) = (x3 - 1)
          · rw [if_pos hc_11] at h
            exact kX6_measures_b138 hkr27 hkr38 hkr92 hm h
          · rw [if_neg hc_11] at h
            exact kX6_measures_b142 hkr27 hkr38 hkr92 hm h
        · rw [if_neg hc_7] at h
          exact kX6_measures_b142 hkr27 hkr38 hkr92 hm h
      · rw [if_neg hc_3] at h
        exact kX6_measures_b138 hkr27 hkr38 hkr92 hm h
theorem kX6_measures_l92 {r0 : Int32} {w0 : Wd} {rec27 : Nat → Int32 → Int32 → Int32 → Wd → Option (Int32 × Wd)} {rec38 : Nat → Int32 → Int32 → Int32 → Int32 → Wd → Option (Int32 × Wd)} {wb : Wd} (hkr27 : ∀ (a0 : Nat) (x1 : Int32) (x2 : Int32) (x3 : Int32) (w : Wd), rec27 a0 x1 x2 x3 w = some (r0, w0) → mo wb w → mo wb w0) (hkr38 : ∀ (a0 : Nat) (x1 : Int32) (x2 : Int32) (x3 : Int32) (x4 : Int32) (w : Wd), rec38 a0 x1 x2 x3 x4 w = some (r0, w0) → mo wb w → mo wb w0) : ∀ (n : Nat) (a0 : Nat) (x1 : Int32) (x2 : Int32) (x3 : Int32) (x4 : Int32) (x5 : Int32) (x6 : Int32) (w : Wd), mo wb w → fX6_measures_l92 rec27 rec38 n a0 x1 x2 x3 x4 x5 x6 w = some (r0, w0) → mo wb w0 := by
  intro n
  induction n with
  | zero => intro a0 x1 x2 x3 x4 x5 x6 w hm h; cases h
  | succ n ih =>
    intro a0 x1 x2 x3 x4 x5 x6 w hm h
    exact kX6_measures_b92 hkr27 hkr38 (fun a0 x1 x2 x3 x4 x5 x6 w h hm => ih a0 x1 x2 x3 x4 x5 x6 w hm h) hm h
theorem kX6_measures_b85 {r0 : Int32} {w0 : Wd} {rec27 : Nat → Int32 → Int32 → Int32 → Wd → Option (Int32 × Wd)} {rec38 : Nat → Int32 → Int32 → Int32 → Int32 → Wd → Option (Int32 × Wd)} {a0 : Nat} {x1 : Int32} {x2 : Int32} {x3 : Int32} {x4 : Int32} {xs0 : Int32} {w wb : Wd} (hkr27 : ∀ (a0 : Nat) (x1 : Int32) (x2 : Int32) (x3 : Int32) (w : Wd), rec27 a0 x1 x2 x3 w = some (r0, w0) → mo wb w → mo wb w0) (hkr38 : ∀ (a0 : Nat) (x1 : Int32) (x2 : Int32) (x3 : Int32) (x4 : Int32) (w : Wd), rec38 a0 x1 x2 x3 x4 w = some (r0, w0) → mo wb w → mo wb w0) (hm : mo wb w) (h : fX6_measures_b85 rec27 rec38 a0 x1 x2 x3 x4 xs0 w = some (r0, w0)) : mo wb w0 := by
  unfold fX6_measures_b85 at h
  exact kX6_measures_l92 hkr27 hkr38 1000 a0 x1 x2 x3 x4 xs0 (x1 + 1) w hm h
theorem kX6_measures_b84 {r0 : Int32} {w0 : Wd} {rec27 : Nat → Int32 → Int32 → Int32 → Wd → Option (Int32 × Wd)} {rec38 : Nat → Int32 → Int32 → Int32 → Int32 → Wd → Option (Int32 × Wd)} {a0 : Nat} {x1 : Int32} {x2 : Int32} {x3 : Int32} {x4 : Int32} {w wb : Wd} (hkr27 : ∀ (a0 : Nat) (x1 : Int32) (x2 : Int32) (x3 : Int32) (w : Wd), rec27 a0 x1 x2 x3 w = some (r0, w0) → mo wb w → mo wb w0) (hkr38 : ∀ (a0 : Nat) (x1 : Int32) (x2 : Int32) (x3 : Int32) (x4 : Int32) (w : Wd), rec38 a0 x1 x2 x3 x4 w = some (r0, w0) → mo wb w → mo wb w0) (hm : mo wb w) (h : fX6_measures_b84 rec27 rec38 a0 x1 x2 x3 x4 w = some (r0, w0)) : mo wb w0 := by
  unfold fX6_measures_b84 at h
  exact kX6_measures_b85 hkr27 hkr38 hm h
theorem kX6_measures_b38 {r0 : Int32} {w0 : Wd} {rec27 : Nat → Int32 → Int32 → Int32 → Wd → Option (Int32 × Wd)} {rec38 : Nat → Int32 → Int32 → Int32 → Int32 → Wd → Option (Int32 × Wd)} {a0 : Nat} {x1 : Int32} {x2 : Int32} {x3 : Int32} {x4 : Int32} {w wb : Wd} (hkr27 : ∀ (a0 : Nat) (x1 : Int32) (x2 : Int32) (x3 : Int32) (w : Wd), rec27 a0 x1 x2 x3 w = some (r0, w0) → mo wb w → mo wb w0) (hkr38 : ∀ (a0 : Nat) (x1 : Int32) (x2 : Int32) (x3 : Int32) (x4 : Int32) (w : Wd), rec38 a0 x1 x2 x3 x4 w = some (r0, w0) → mo wb w → mo wb w0) (hm : mo wb w) (h : fX6_measures_b38 rec27 rec38 a0 x1 x2 x3 x4 w = some (r0, w0)) : mo wb w0 := by
  unfold fX6_measures_b38 at h
  by_cases hc_1 : 16 ≤ x4
  · rw [if_pos hc_1] at h
    exact hkr27 a0 x1 x2 (x3 + 1) w h hm
  · rw [if_neg hc_1] at h
    replace h := ckp_inv h; obtain ⟨hk_4, h⟩ := h
    by_cases hc_5 : 100 ≤ (zI w 6 a0 26 (x4 : Int32).toNatClampNeg)
    · rw [if_pos hc_5] at h
      by_cases hc_6 : x3 = 1
      · rw [if_pos hc_6] at h
        replace h := ckp_inv h; obtain ⟨hk_9, h⟩ := h
        by_cases hc_10 : (((zI w 6 a0 25 (x4 : Int32).toNatClampNeg) >>> (x1 &&& 31)) &&& 1) = 1
        · rw [if_pos hc_10] at h
          exact kX6_measures_b85 hkr27 hkr38 hm h
        · rw [if_neg hc_10] at h
          exact kX6_measures_b84 hkr27 hkr38 hm h
      · rw [if_neg hc_6] at h
        exact kX6_measures_b84 hkr27 hkr38 hm h
    · rw [if_neg hc_5] at h
      exact kX6_measures_b164 hkr27 hkr38 hm h
theorem kX6_measures_l38 {r0 : Int32} {w0 : Wd} {rec27 : Nat → Int32 → Int32 → Int32 → Wd → Option (Int32 × Wd)} {wb : Wd} (hkr27 : ∀ (a0 : Nat) (x1 : Int32) (x2 : Int32) (x3 : Int32) (w : Wd), rec27 a0 x1 x2 x3 w = some (r0, w0) → mo wb w → mo wb w0) : ∀ (n : Nat) (a0 : Nat) (x1 : Int32) (x2 : Int32) (x3 : Int32) (x4 : Int32) (w : Wd), mo wb w → fX6_measures_l38 rec27 n a0 x1 x2 x3 x4 w = some (r0, w0) → mo wb w0 := by
  intro n
  induction n with
  | zero => intro a0 x1 x2 x3 x4 w hm h; cases h
  | succ n ih =>
    intro a0 x1 x2 x3 x4 w hm h
    exact kX6_measures_b38 hkr27 (fun a0 x1 x2 x3 x4 w h hm => ih a0 x1 x2 x3 x4 w hm h) hm h
theorem kX6_measures_b27 {r0 : Int32} {w0 : Wd} {rec27 : Nat → Int32 → Int32 → Int32 → Wd → Option (Int32 × Wd)} {a0 : Nat} {x1 : Int32} {x2 : Int32} {x3 : Int32} {w wb : Wd} (hkr27 : ∀ (a0 : Nat) (x1 : Int32) (x2 : Int32) (x3 : Int32) (w : Wd), rec27 a0 x1 x2 x3 w = some (r0, w0) → mo wb w → mo wb w0) (hm : mo wb w) (h : fX6_measures_b27 rec27 a0 x1 x2 x3 w = some (r0, w0)) : mo wb w0 := by
  unfold fX6_measures_b27 at h
  by_cases hc_1 : 16 < x3
  · rw [if_pos hc_1] at h
    exact kX6_measures_l180 1000 a0 x1 x2 (x1 + 1) w hm h
  · rw [if_neg hc_1] at h
    exact kX6_measures_l38 hkr27 1000 a0 x1 x2 x3 (x1 + 1) w hm h
theorem kX6_measures_l27 {r0 : Int32} {w0 : Wd} {wb : Wd} : ∀ (n : Nat) (a0 : Nat) (x1 : Int32) (x2 : Int32) (x3 : Int32) (w : Wd), mo wb w → fX6_measures_l27  n a0 x1 x2 x3 w = some (r0, w0) → mo wb w0 := by
  intro n
  induction n with
  | zero => intro a0 x1 x2 x3 w hm h; cases h
  | succ n ih =>
    intro a0 x1 x2 x3 w hm h
    exact kX6_measures_b27  (fun a0 x1 x2 x3 w h hm => ih a0 x1 x2 x3 w hm h) hm h
theorem kX6_measures_b2 {r0 : Int32} {w0 : Wd} {rec2 : Nat → Int32 → Int32 → Wd → Option (Int32 × Wd)} {a0 : Nat} {x1 : Int32} {x2 : Int32} {w wb : Wd} (hkr2 : ∀ (a0 : Nat) (x1 : Int32) (x2 : Int32) (w : Wd), rec2 a0 x1 x2 w = some (r0, w0) → mo wb w → mo wb w0) (hm : mo wb w) (h : fX6_measures_b2 rec2 a0 x1 x2 w = some (r0, w0)) : mo wb w0 := by
  unfold fX6_measures_b2 at h
  by_cases hc_1 : 16 ≤ x2
  · rw [if_pos hc_1] at h
    exact kX6_measures_l27 1000 a0 x1 100 1 w hm h
  · rw [if_neg hc_1] at h
    replace h := ckp_inv h; obtain ⟨hk_4, h⟩ := h
    replace h := lt_inv h; obtain ⟨w_5, ew_6, h⟩ := h
    have hm := mo_eI hm ew_6
    exact hkr2 a0 x1 (x2 + 1) w_5 h hm
theorem kX6_measures_l2 {r0 : Int32} {w0 : Wd} {wb : Wd} : ∀ (n : Nat) (a0 : Nat) (x1 : Int32) (x2 : Int32) (w : Wd), mo wb w → fX6_measures_l2  n a0 x1 x2 w = some (r0, w0) → mo wb w0 := by
  intro n
  induction n with
  | zero => intro a0 x1 x2 w hm h; cases h
  | succ n ih =>
    intro a0 x1 x2 w hm h
    exact kX6_measures_b2  (fun a0 x1 x2 w h hm => ih a0 x1 x2 w hm h) hm h
theorem kX6_measures {r0 : Int32} {w0 : Wd} {a0 : Nat} {x1 : Int32} {w : Wd} (h : fX6_measures a0 x1 w = some (r0, w0)) : mo w w0 := by
  have hm := mo_rf w
  unfold fX6_measures at h
  exact kX6_measures_l2 1000 a0 x1 0 w hm h
theorem vX6_measures_b221 {x : CT} (hx : CX x cX6_measures RX6 rmX6_measures (some .int)) {r0 : Int32} {w0 : Wd} (hq : RI x rmX6_measures r0 w0) {rec180 : Nat → Int32 → Int32 → Int32 → Wd → Option (Int32 × Wd)} {a0 : Nat} {x1 : Int32} {x2 : Int32} {x3 : Int32} {w : Wd} (hrec180 : ∀ (a0 : Nat) (x1 : Int32) (x2 : Int32) (x3 : Int32) (w : Wd), rec180 a0 x1 x2 x3 w = some (r0, w0) → (zL w 6 a0 = true) → V x 180 [some (.ref a0), some (.int x1), some (.int x2), some (.int x3), none, none, none] [] (Rp (xD x) w) 0 0) (hl0 : zL w 6 a0 = true) (h : fX6_measures_b221 rec180 a0 x1 x2 x3 w = some (r0, w0)) : V x 221 [some (.ref a0), some (.int x1), some (.int x2), some (.int x3), none, none, none] [] (Rp (xD x) w) 0 0 := by
  unfold fX6_measures_b221 at h
  refine v_iinc (pc' := 224) (w0 := (x3 + 1)) (L' := [some (.ref a0), some (.int x1), some (.int x2), some (.int (x3 + 1)), none, none, none]) hx dX6_measures_221 rfl rfl rfl rfl ?_
  refine v_goto (tgt := 180) hx dX6_measures_224 (by decide) ?_
  exact hrec180 a0 x1 x2 (x3 + 1) w h hl0
theorem vX6_measures_b180 {x : CT} (hx : CX x cX6_measures RX6 rmX6_measures (some .int)) {r0 : Int32} {w0 : Wd} (hq : RI x rmX6_measures r0 w0) {rec180 : Nat → Int32 → Int32 → Int32 → Wd → Option (Int32 × Wd)} {a0 : Nat} {x1 : Int32} {x2 : Int32} {x3 : Int32} {w : Wd} (hrec180 : ∀ (a0 : Nat) (x1 : Int32) (x2 : Int32) (x3 : Int32) (w : Wd), rec180 a0 x1 x2 x3 w = some (r0, w0) → (zL w 6 a0 = true) → V x 180 [some (.ref a0), some (.int x1), some (.int x2), some (.int x3), none, none, none] [] (Rp (xD x) w) 0 0) (hl0 : zL w 6 a0 = true) (h : fX6_measures_b180 rec180 a0 x1 x2 x3 w = some (r0, w0)) : V x 180 [some (.ref a0), some (.int x1), some (.int x2), some (.int x3), none, none, none] [] (Rp (xD x) w) 0 0 := by
  unfold fX6_measures_b180 at h
  refine v_iload_n (pc' := 181) hx dX6_measures_180 rfl rfl ?_
  refine v_bipush (pc' := 183) (v := 16) hx dX6_measures_181 (by decide) rfl ?_
  refine v_icmp_ge (tgt := 227) (pc' := 186) hx dX6_measures_183 (by decide) rfl (fun hc_1 => ?_) (fun hc_1 => ?_)
  · rw [if_pos hc_1] at h
    refine v_iload_n (pc' := 228) hx dX6_measures_227 rfl rfl ?_
    exact v_iret hx hq (by decide) (by decide) dX6_measures_228 (by cases h; rfl)
  · rw [if_neg hc_1] at h
    refine v_aload_n (pc' := 187) hx dX6_measures_186 rfl rfl ?_
    obtain ⟨g_2, hq_3⟩ : ∃ q, zA w 6 a0 25 = q := ⟨_, rfl⟩
    refine v_getAq (pc' := 190) hx hl0 fi_6_25.1 (by decide) hq_3 fk_X6_52 dX6_measures_187 rfl ?_
    refine v_iload_n (pc' := 191) hx dX6_measures_190 rfl rfl ?_
    replace h := ckp_inv h; obtain ⟨hk_4, h⟩ := h
    refine v_ialdq (pc' := 192) hx hl0 fi_6_25.1 fi_6_25.2.1 rfl hk_4 hq_3 dX6_measures_191 rfl ?_
    refine v_iload_n (pc' := 193) hx dX6_measures_192 rfl rfl ?_
    refine v_ishr (pc' := 194) hx dX6_measures_193 rfl ?_
    refine v_iconst (pc' := 195) (v := 1) hx dX6_measures_194 (by decide) rfl ?_
    refine v_iand (pc' := 196) hx dX6_measures_195 rfl ?_
    refine v_iconst (pc' := 197) (v := 1) hx dX6_measures_196 (by decide) rfl ?_
    refine v_icmp_ne (tgt := 221) (pc' := 200) hx dX6_measures_197 (by decide) rfl (fun hc_5 => ?_) (fun hc_5 => ?_)
    · rw [if_neg hc_5] at h
      exact vX6_measures_b221 hx hq hrec180 hl0 h
    · rw [if_pos hc_5] at h
      refine v_aload_n (pc' := 201) hx dX6_measures_200 rfl rfl ?_
      obtain ⟨g_6, hq_7⟩ : ∃ q, zA w 6 a0 26 = q := ⟨_, rfl⟩
      refine v_getAq (pc' := 204) hx hl0 fi_6_26.1 (by decide) hq_7 fk_X6_55 dX6_measures_201 rfl ?_
      refine v_iload_n (pc' := 205) hx dX6_measures_204 rfl rfl ?_
      replace h := ckp_inv h; obtain ⟨hk_8, h⟩ := h
      refine v_ialdq (pc' := 206) hx hl0 fi_6_26.1 fi_6_26.2.1 rfl hk_8 hq_7 dX6_measures_205 rfl ?_
      refine v_iconst (pc' := 207) (v := 1) hx dX6_measures_206 (by decide) rfl ?_
      refine v_iadd (pc' := 208) hx dX6_measures_207 rfl ?_
      refine v_iload_n (pc' := 209) hx dX6_measures_208 rfl rfl ?_
      refine v_icmp_ge (tgt := 221) (pc' := 212) hx dX6_measures_209 (by decide) rfl (fun hc_9 => ?_) (fun hc_9 => ?_)
      · rw [if_pos hc_9] at h
        exact vX6_measures_b221 hx hq hrec180 hl0 h
      · rw [if_neg hc_9] at h
        refine v_aload_n (pc' := 213) hx dX6_measures_212 rfl rfl ?_
        obtain ⟨g_10, hq_11⟩ : ∃ q, zA w 6 a0 26 = q := ⟨_, rfl⟩
        refine v_getAq (pc' := 216) hx hl0 fi_6_26.1 (by decide) hq_11 fk_X6_55 dX6_measures_213 rfl ?_
        refine v_iload_n (pc' := 217) hx dX6_measures_216 rfl rfl ?_
        replace h := ckp_inv h; obtain ⟨hk_12, h⟩ := h
        refine v_ialdq (pc' := 218) hx hl0 fi_6_26.1 fi_6_26.2.1 rfl hk_12 hq_11 dX6_measures_217 rfl ?_
        refine v_iconst (pc' := 219) (v := 1) hx dX6_measures_218 (by decide) rfl ?_
        refine v_iadd (pc' := 220) hx dX6_measures_219 rfl ?_
        refine v_istore_n (pc' := 221) (L' := [some (.ref a0), some (.int x1), some (.int ((zI w 6 a0 26 (x3 : Int32).toNatClampNeg) + 1)), some (.int x3), none, none, none]) hx dX6_measures_220 rfl rfl (Nat.le_of_ble_eq_true rfl) ?_
        exact vX6_measures_b221 hx hq hrec180 hl0 h
theorem vX6_measures_l180 {x : CT} (hx : CX x cX6_measures RX6 rmX6_measures (some .int)) {r0 : Int32} {w0 : Wd} (hq : RI x rmX6_measures r0 w0) : ∀ (n : Nat) (a0 : Nat) (x1 : Int32) (x2 : Int32) (x3 : Int32) (w : Wd), (zL w 6 a0 = true) → fX6_measures_l180  n a0 x1 x2 x3 w = some (r0, w0) → V x 180 [some (.ref a0), some (.int x1), some (.int x2), some (.int x3), none, none, none] [] (Rp (xD x) w) 0 0 := by
  intro n
  induction n with
  | zero => intro a0 x1 x2 x3 w hl0 h; cases h
  | succ n ih =>
    intro a0 x1 x2 x3 w hl0 h
    exact vX6_measures_b180 hx hq  (fun a0 x1 x2 x3 w h hl0 => ih a0 x1 x2 x3 w hl0 h) hl0 h
theorem vX6_measures_b164 {x : CT} (hx : CX x cX6_measures RX6 rmX6_measures (some .int)) {r0 : Int32} {w0 : Wd} (hq : RI x rmX6_measures r0 w0) {rec27 : Nat → Int32 → Int32 → Int32 → Wd → Option (Int32 × Wd)} {rec38 : Nat → Int32 → Int32 → Int32 → Int32 → Wd → Option (Int32 × Wd)} {a0 : Nat} {x1 : Int32} {x2 : Int32} {x3 : Int32} {x4 : Int32} {w : Wd} (hrec27 : ∀ (a0 : Nat) (x1 : Int32) (x2 : Int32) (x3 : Int32) (w : Wd), rec27 a0 x1 x2 x3 w = some (r0, w0) → (zL w 6 a0 = true) → V x 27 [some (.ref a0), some (.int x1), some (.int x2), some (.int x3), none, none, none] [] (Rp (xD x) w) 0 0) (hrec38 : ∀ (a0 : Nat) (x1 : Int32) (x2 : Int32) (x3 : Int32) (x4 : Int32) (w : Wd), rec38 a0 x1 x2 x3 x4 w = some (r0, w0) → (zL w 6 a0 = true) → V x 38 [some (.ref a0), some (.int x1), some (.int x2), some (.int x3), some (.int x4), none, none] [] (Rp (xD x) w) 0 0) (hl0 : zL w 6 a0 = true) (h : fX6_measures_b164 rec27 rec38 a0 x1 x2 x3 x4 w = some (r0, w0)) : V x 164 [some (.ref a0), some (.int x1), some (.int x2), some (.int x3), some (.int x4), none, none] [] (Rp (xD x) w) 0 0 := by
  unfold fX6_measures_b164 at h
  refine v_iinc (pc' := 167) (w0 := (x4 + 1)) (L' := [some (.ref a0), some (.int x1), some (.int x2), some (.int x3), some (.int (x4 + 1)), none, none]) hx dX6_measures_164 rfl rfl rfl rfl ?_
  refine v_goto (tgt := 38) hx dX6_measures_167 (by decide) ?_
  exact hrec38 a0 x1 x2 x3 (x4 + 1) w h hl0
theorem vX6_measures_b151 {x : CT} (hx : CX x cX6_measures RX6 rmX6_measures (some .int)) {r0 : Int32} {w0 : Wd} (hq : RI x rmX6_measures r0 w0) {rec27 : Nat → Int32 → Int32 → Int32 → Wd → Option (Int32 × Wd)} {rec38 : Nat → Int32 → Int32 → Int32 → Int32 → Wd → Option (Int32 × Wd)} {a0 : Nat} {x1 : Int32} {x2 : Int32} {x3 : Int32} {x4 : Int32} {x5 : Int32} {w : Wd} (hrec27 : ∀ (a0 : Nat) (x1 : Int32) (x2 : Int32) (x3 : Int32) (w : Wd), rec27 a0 x1 x2 x3 w = some (r0, w0) → (zL w 6 a0 = true) → V x 27 [some (.ref a0), some (.int x1), some (.int x2), some (.int x3), none, none, none] [] (Rp (xD x) w) 0 0) (hrec38 : ∀ (a0 : Nat) (x1 : Int32) (x2 : Int32) (x3 : Int32) (x4 : Int32) (w : Wd), rec38 a0 x1 x2 x3 x4 w = some (r0, w0) → (zL w 6 a0 = true) → V x 38 [some (.ref a0), some (.int x1), some (.int x2), some (.int x3), some (.int x4), none, none] [] (Rp (xD x) w) 0 0) (hl0 : zL w 6 a0 = true) (h : fX6_measures_b151 rec27 rec38 a0 x1 x2 x3 x4 x5 w = some (r0, w0)) : V x 151 [some (.ref a0), some (.int x1), some (.int x2), some (.int x3), some (.int x4), some (.int x5), none] [] (Rp (xD x) w) 0 0 := by
  unfold fX6_measures_b151 at h
  refine v_iload (pc' := 153) hx dX6_measures_151 rfl rfl ?_
  refine v_if_eq (tgt := 164) (pc' := 156) hx dX6_measures_153 (by decide) rfl (fun hc_1 => ?_) (fun hc_1 => ?_)
  · rw [if_pos hc_1] at h
    refine V.sb (L' := [some (.ref a0), some (.int x1), some (.int x2), some (.int x3), some (.int x4), none, none]) ⟨Or.inr rfl, Or.inr rfl, Or.inr rfl, Or.inr rfl, Or.inr rfl, Or.inl rfl, Or.inl rfl, trivial⟩ ?_
    exact vX6_measures_b164 hx hq hrec27 hrec38 hl0 h
  · rw [if_neg hc_1] at h
    refine v_aload_n (pc' := 157) hx dX6_measures_156 rfl rfl ?_
    obtain ⟨g_2, hq_3⟩ : ∃ q, zA w 6 a0 26 = q := ⟨_, rfl⟩
    refine v_getAq (pc' := 160) hx hl0 fi_6_26.1 (by decide) hq_3 fk_X6_55 dX6_measures_157 rfl ?_
    refine v_iload (pc' := 162) hx dX6_measures_160 rfl rfl ?_
    refine v_iload_n (pc' := 163) hx dX6_measures_162 rfl rfl ?_
    replace h := ckp_inv h; obtain ⟨hk_4, h⟩ := h
    refine v_iastq (pc' := 164) hx hl0 fi_6_26.1 fi_6_26.2.1 rfl hk_4 hq_3 dX6_measures_163 rfl ?_
    replace h := lt_inv h; obtain ⟨w_5, ew_6, h⟩ := h
    rw [← ew_6]
    have hl_7 : zL w_5 6 a0 = true := by rw [ew_6]; exact hl0
    refine V.sb (L' := [some (.ref a0), some (.int x1), some (.int x2), some (.int x3), some (.int x4), none, none]) ⟨Or.inr rfl, Or.inr rfl, Or.inr rfl, Or.inr rfl, Or.inr rfl, Or.inl rfl, Or.inl rfl, trivial⟩ ?_
    exact vX6_measures_b164 hx hq hrec27 hrec38 hl_7 h
theorem vX6_measures_b143 {x : CT} (hx : CX x cX6_measures RX6 rmX6_measures (some .int)) {r0 : Int32} {w0 : Wd} (hq : RI x rmX6_measures r0 w0) {rec27 : Nat → Int32 → Int32 → Int32 → Wd → Option (Int32 × Wd)} {rec38 : Nat → Int32 → Int32 → Int32 → Int32 → Wd → Option (Int32 × Wd)} {rec92 : Nat → Int32 → Int32 → Int32 → Int32 → Int32 → Int32 → Wd → Option (Int32 × Wd)} {a0 : Nat} {x1 : Int32} {x2 : Int32} {x3 : Int32} {x4 : Int32} {x6 : Int32} {xs0 : Int32} {w : Wd} (hrec27 : ∀ (a0 : Nat) (x1 : Int32) (x2 : Int32) (x3 : Int32) (w : Wd), rec27 a0 x1 x2 x3 w = some (r0, w0) → (zL w 6 a0 = true) → V x 27 [some (.ref a0), some (.int x1), some (.int x2), some (.int x3), none, none, none] [] (Rp (xD x) w) 0 0) (hrec38 : ∀ (a0 : Nat) (x1 : Int32) (x2 : Int32) (x3 : Int32) (x4 : Int32) (w : Wd), rec38 a0 x1 x2 x3 x4 w = some (r0, w0) → (zL w 6 a0 = true) → V x 38 [some (.ref a0), some (.int x1), some (.int x2), some (.int x3), some (.int x4), none, none] [] (Rp (xD x) w) 0 0) (hrec92 : ∀ (a0 : Nat) (x1 : Int32) (x2 : Int32) (x3 : Int32) (x4 : Int32) (x5 : Int32) (x6 : Int32) (w : Wd), rec92 a0 x1 x2 x3 x4 x5 x6 w = some (r0, w0) → (zL w 6 a0 = true) → V x 92 [some (.ref a0), some (.int x1), some (.int x2), some (.int x3), some (.int x4), some (.int x5), some (.int x6)] [] (Rp (xD x) w) 0 0) (hl0 : zL w 6 a0 = true) (h : fX6_measures_b143 rec27 rec38 rec92 a0 x1 x2 x3 x4 x6 xs0 w = some (r0, w0)) : V x 143 [some (.ref a0), some (.int x1), some (.int x2), some (.int x3), some (.int x4), none, some (.int x6)] [.int xs0] (Rp (xD x) w) 0 0 := by
  unfold fX6_measures_b143 at h
  refine v_istore (pc' := 145) (L' := [some (.ref a0), some (.int x1), some (.int x2), some (.int x3), some (.int x4), some (.int xs0), some (.int x6)]) hx dX6_measures_143 rfl rfl (Nat.le_of_ble_eq_true rfl) ?_
  refine v_iinc (pc' := 148) (w0 := (x6 + 1)) (L' := [some (.ref a0), some (.int x1), some (.int x2), some (.int x3), some (.int x4), some (.int xs0), some (.int (x6 + 1))]) hx dX6_measures_145 rfl rfl rfl rfl ?_
  refine v_goto (tgt := 92) hx dX6_measures_148 (by decide) ?_
  exact hrec92 a0 x1 x2 x3 x4 xs0 (x6 + 1) w h hl0
theorem vX6_measures_b142 {x : CT} (hx : CX x cX6_measures RX6 rmX6_measures (some .int)) {r0 : Int32} {w0 : Wd} (hq : RI x rmX6_measures r0 w0) {rec27 : Nat → Int32 → Int32 → Int32 → Wd → Option (Int32 × Wd)} {rec38 : Nat → Int32 → Int32 → Int32 → Int32 → Wd → Option (Int32 × Wd)} {rec92 : Nat → Int32 → Int32 → Int32 → Int32 → Int32 → Int32 → Wd → Option (Int32 × Wd)} {a0 : Nat} {x1 : Int32} {x2 : Int32} {x3 : Int32} {x4 : Int32} {x6 : Int32} {w : Wd} (hrec27 : ∀ (a0 : Nat) (x1 : Int32) (x2 : Int32) (x3 : Int32) (w : Wd), rec27 a0 x1 x2 x3 w = some (r0, w0) → (zL w 6 a0 = true) → V x 27 [some (.ref a0), some (.int x1), some (.int x2), some (.int x3), none, none, none] [] (Rp (xD x) w) 0 0) (hrec38 : ∀ (a0 : Nat) (x1 : Int32) (x2 : Int32) (x3 : Int32) (x4 : Int32) (w : Wd), rec38 a0 x1 x2 x3 x4 w = some (r0, w0) → (zL w 6 a0 = true) → V x 38 [some (.ref a0), some (.int x1), some (.int x2), some (.int x3), some (.int x4), none, none] [] (Rp (xD x) w) 0 0) (hrec92 : ∀ (a0 : Nat) (x1 : Int32) (x2 : Int32) (x3 : Int32) (x4 : Int32) (x5 : Int32) (x6 : Int32) (w : Wd), rec92 a0 x1 x2 x3 x4 x5 x6 w = some (r0, w0) → (zL w 6 a0 = true) → V x 92 [some (.ref a0), some (.int x1), some (.int x2), some (.int x3), some (.int x4), some (.int x5), some (.int x6)] [] (Rp (xD x) w) 0 0) (hl0 : zL w 6 a0 = true) (h : fX6_measures_b142 rec27 rec38 rec92 a0 x1 x2 x3 x4 x6 w = some (r0, w0)) : V x 142 [some (.ref a0), some (.int x1), some (.int x2), some (.int x3), some (.int x4), none, some (.int x6)] [] (Rp (xD x) w) 0 0 := by
  unfold fX6_measures_b142 at h
  refine v_iconst (pc' := 143) (v := 0) hx dX6_measures_142 (by decide) rfl ?_
  exact vX6_measures_b143 hx hq hrec27 hrec38 hrec92 hl0 h
theorem vX6_measures_b138 {x : CT} (hx : CX x cX6_measures RX6 rmX6_measures (some .int)) {r0 : Int32} {w0 : Wd} (hq : RI x rmX6_measures r0 w0) {rec27 : Nat → Int32 → Int32 → Int32 → Wd → Option (Int32 × Wd)} {rec38 : Nat → Int32 → Int32 → Int32 → Int32 → Wd → Option (Int32 × Wd)} {rec92 : Nat → Int32 → Int32 → Int32 → Int32 → Int32 → Int32 → Wd → Option (Int32 × Wd)} {a0 : Nat} {x1 : Int32} {x2 : Int32} {x3 : Int32} {x4 : Int32} {x6 : Int32} {w : Wd} (hrec27 : ∀ (a0 : Nat) (x1 : Int32) (x2 : Int32) (x3 : Int32) (w : Wd), rec27 a0 x1 x2 x3 w = some (r0, w0) → (zL w 6 a0 = true) → V x 27 [some (.ref a0), some (.int x1), some (.int x2), some (.int x3), none, none, none] [] (Rp (xD x) w) 0 0) (hrec38 : ∀ (a0 : Nat) (x1 : Int32) (x2 : Int32) (x3 : Int32) (x4 : Int32) (w : Wd), rec38 a0 x1 x2 x3 x4 w = some (r0, w0) → (zL w 6 a0 = true) → V x 38 [some (.ref a0), some (.int x1), some (.int x2), some (.int x3), some (.int x4), none, none] [] (Rp (xD x) w) 0 0) (hrec92 : ∀ (a0 : Nat) (x1 : Int32) (x2 : Int32) (x3 : Int32) (x4 : Int32) (x5 : Int32) (x6 : Int32) (w : Wd), rec92 a0 x1 x2 x3 x4 x5 x6 w = some (r0, w0) → (zL w 6 a0 = true) → V x 92 [some (.ref a0), some (.int x1), some (.int x2), some (.int x3), some (.int x4), some (.int x5), some (.int x6)] [] (Rp (xD x) w) 0 0) (hl0 : zL w 6 a0 = true) (h : fX6_measures_b138 rec27 rec38 rec92 a0 x1 x2 x3 x4 x6 w = some (r0, w0)) : V x 138 [some (.ref a0), some (.int x1), some (.int x2), some (.int x3), some (.int x4), none, some (.int x6)] [] (Rp (xD x) w) 0 0 := by
  unfold fX6_measures_b138 at h
  refine v_iconst (pc' := 139) (v := 1) hx dX6_measures_138 (by decide) rfl ?_
  refine v_goto (tgt := 143) hx dX6_measures_139 (by decide) ?_
  exact vX6_measures_b143 hx hq hrec27 hrec38 hrec92 hl0 h
theorem vX6_measures_b92 {x : CT} (hx : CX x cX6_measures RX6 rmX6_measures (some .int)) {r0 : Int32} {w0 : Wd} (hq : RI x rmX6_measures r0 w0) {rec27 : Nat → Int32 → Int32 → Int32 → Wd → Option (Int32 × Wd)} {rec38 : Nat → Int32 → Int32 → Int32 → Int32 → Wd → Option (Int32 × Wd)} {rec92 : Nat → Int32 → Int32 → Int32 → Int32 → Int32 → Int32 → Wd → Option (Int32 × Wd)} {a0 : Nat} {x1 : Int32} {x2 : Int32} {x3 : Int32} {x4 : Int32} {x5 : Int32} {x6 : Int32} {w : Wd} (hrec27 : ∀ (a0 : Nat) (x1 : Int32) (x2 : Int32) (x3 : Int32) (w : Wd), rec27 a0 x1 x2 x3 w = some (r0, w0) → (zL w 6 a0 = true) → V x 27 [some (.ref a0), some (.int x1), some (.int x2), some (.int x3), none, none, none] [] (Rp (xD x) w) 0 0) (hrec38 : ∀ (a0 : Nat) (x1 : Int32) (x2 : Int32) (x3 : Int32) (x4 : Int32) (w : Wd), rec38 a0 x1 x2 x3 x4 w = some (r0, w0) → (zL w 6 a0 = true) → V x 38 [some (.ref a0), some (.int x1), some (.int x2), some (.int x3), some (.int x4), none, none] [] (Rp (xD x) w) 0 0) (hrec92 : ∀ (a0 : Nat) (x1 : Int32) (x2 : Int32) (x3 : Int32) (x4 : Int32) (x5 : Int32) (x6 : Int32) (w : Wd), rec92 a0 x1 x2 x3 x4 x5 x6 w = some (r0, w0) → (zL w 6 a0 = true) → V x 92 [some (.ref a0), some (.int x1), some (.int x2), some (.int x3), some (.int x4), some (.int x5), some (.int x6)] [] (Rp (xD x) w) 0 0) (hl0 : zL w 6 a0 = true) (h : fX6_measures_b92 rec27 rec38 rec92 a0 x1 x2 x3 x4 x5 x6 w = some (r0, w0)) : V x 92 [some (.ref a0), some (.int x1), some (.int x2), some (.int x3), some (.int x4), some (.int x5), some (.int x6)] [] (Rp (xD x) w) 0 0 := by
  unfold fX6_measures_b92 at h
  refine v_iload (pc' := 94) hx dX6_measures_92 rfl rfl ?_
  refine v_bipush (pc' := 96) (v := 16) hx dX6_measures_94 (by decide) rfl ?_
  refine v_icmp_ge (tgt := 151) (pc' := 99) hx dX6_measures_96 (by decide) rfl (fun hc_1 => ?_) (fun hc_1 => ?_)
  · rw [if_pos hc_1] at h
    refine V.sb (L' := [some (.ref a0), some (.int x1), some (.int x2), some (.int x3), some (.int x4), some (.int x5), none]) ⟨Or.inr rfl, Or.inr rfl, Or.inr rfl, Or.inr rfl, Or.inr rfl, Or.inr rfl, Or.inl rfl, trivial⟩ ?_
    exact vX6_measures_b151 hx hq hrec27 hrec38 hl0 h
  · rw [if_neg hc_1] at h
    refine v_iload_n (pc' := 100) hx dX6_measures_99 rfl rfl ?_
    refine v_iconst (pc' := 101) (v := 1) hx dX6_measures_100 (by decide) rfl ?_
    refine v_icmp_le (tgt := 151) (pc' := 104) hx dX6_measures_101 (by decide) rfl (fun hc_2 => ?_) (fun hc_2 => ?_)
    · rw [if_pos hc_2] at h
      refine V.sb (L' := [some (.ref a0), some (.int x1), some (.int x2), some (.int x3), some (.int x4), some (.int x5), none]) ⟨Or.inr rfl, Or.inr rfl, Or.inr rfl, Or.inr rfl, Or.inr rfl, Or.inr rfl, Or.inl rfl, trivial⟩ ?_
      exact vX6_measures_b151 hx hq hrec27 hrec38 hl0 h
    · rw [if_neg hc_2] at h
      refine v_iload (pc' := 106) hx dX6_measures_104 rfl rfl ?_
      refine v_if_ne (tgt := 138) (pc' := 109) hx dX6_measures_106 (by decide) rfl (fun hc_3 => ?_) (fun hc_3 => ?_)
      · rw [if_neg hc_3] at h
        refine V.sb (L' := [some (.ref a0), some (.int x1), some (.int x2), some (.int x3), some (.int x4), none, some (.int x6)]) ⟨Or.inr rfl, Or.inr rfl, Or.inr rfl, Or.inr rfl, Or.inr rfl, Or.inl rfl, Or.inr rfl, trivial⟩ ?_
        exact vX6_measures_b138 hx hq hrec27 hrec38 hrec92 hl0 h
      · rw [if_pos hc_3] at h
        refine v_aload_n (pc' := 110) hx dX6_measures_109 rfl rfl ?_
        obtain ⟨g_4, hq_5⟩ : ∃ q, zA w 6 a0 25 = q := ⟨_, rfl⟩
        refine v_getAq (pc' := 113) hx hl0 fi_6_25.1 (by decide) hq_5 fk_X6_52 dX6_measures_110 rfl ?_
        refine v_iload (pc' := 115) hx dX6_measures_113 rfl rfl ?_
        replace h := ckp_inv h; obtain ⟨hk_6, h⟩ := h
        refine v_ialdq (pc' := 116) hx hl0 fi_6_25.1 fi_6_25.2.1 rfl hk_6 hq_5 dX6_measures_115 rfl ?_
        refine v_iload (pc' := 118) hx dX6_measures_116 rfl rfl ?_
        refine v_ishr (pc' := 119) hx dX6_measures_118 rfl ?_
        refine v_iconst (pc' := 120) (v := 1) hx dX6_measures_119 (by decide) rfl ?_
        refine v_iand (pc' := 121) hx dX6_measures_120 rfl ?_
        refine v_iconst (pc' := 122) (v := 1) hx dX6_measures_121 (by decide) rfl ?_
        refine v_icmp_ne (tgt := 142) (pc' := 125) hx dX6_measures_122 (by decide) rfl (fun hc_7 => ?_) (fun hc_7 => ?_)
        · rw [if_neg hc_7] at h
          refine V.sb (L' := [some (.ref a0), some (.int x1), some (.int x2), some (.int x3), some (.int x4), none, some (.int x6)]) ⟨Or.inr rfl, Or.inr rfl, Or.inr rfl, Or.inr rfl, Or.inr rfl, Or.inl rfl, Or.inr rfl, trivial⟩ ?_
          exact vX6_measures_b142 hx hq hrec27 hrec38 hrec92 hl0 h
        · rw [if_pos hc_7] at h
          refine v_aload_n (pc' := 126) hx dX6_measures_125 rfl rfl ?_
          obtain ⟨g_8, hq_9⟩ : ∃ q, zA w 6 a0 26 = q := ⟨_, rfl⟩
          refine v_getAq (pc' := 129) hx hl0 fi_6_26.1 (by decide) hq_9 fk_X6_55 dX6_measures_126 rfl ?_
          refine v_iload (pc' := 131) hx dX6_measures_129 rfl rfl ?_
          replace h := ckp_inv h; obtain ⟨hk_10, h⟩ := h
          refine v_ialdq (pc' := 132) hx hl0 fi_6_26.1 fi_6_26.2.1 rfl hk_10 hq_9 dX6_measures_131 rfl ?_
          refine v_iload_n (pc' := 133) hx dX6_measures_132 rfl rfl ?_
          refine v_iconst (pc' := 134) (v := 1) hx dX6_measures_133 (by decide) rfl ?_
          refine v_isub (pc' := 135) hx dX6_measures_134 rfl ?_
          refine v_icmp_ne (tgt := 142) (pc' := 138) hx dX6_measures_135 (by decide) rfl (fun hc_11 => ?_) (fun hc_11 => ?_)
          · rw [if_neg hc_11] at h
            refine V.sb (L' := [some (.ref a0), some (.int x1), some (.int x2), some (.int x3), some (.int x4), none, some (.int x6)]) ⟨Or.inr rfl, Or.inr rfl, Or.inr rfl, Or.inr rfl, Or.inr rfl, Or.inl rfl, Or.inr rfl, trivial⟩ ?_
            exact vX6_measures_b142 hx hq hrec27 hrec38 hrec92 hl0 h
          · rw [if_pos hc_11] at h
            refine V.sb (L' := [some (.ref a0), some (.int x1), some (.int x2), some (.int x3), some (.int x4), none, some (.int x6)]) ⟨Or.inr rfl, Or.inr rfl, Or.inr rfl, Or.inr rfl, Or.inr rfl, Or.inl rfl, Or.inr rfl, trivial⟩ ?_
            exact vX6_measures_b138 hx hq hrec27 hrec38 hrec92 hl0 h
theorem vX6_measures_l92 {x : CT} (hx : CX x cX6_measures RX6 rmX6_measures (some .int)) {r0 : Int32} {w0 : Wd} (hq : RI x rmX6_measures r0 w0) {rec27 : Nat → Int32 → Int32 → Int32 → Wd → Option (Int32 × Wd)} {rec38 : Nat → Int32 → Int32 → Int32 → Int32 → Wd → Option (Int32 × Wd)} (hrec27 : ∀ (a0 : Nat) (x1 : Int32) (x2 : Int32) (x3 : Int32) (w : Wd), rec27 a0 x1 x2 x3 w = some (r0, w0) → (zL w 6 a0 = true) → V x 27 [some (.ref a0), some (.int x1), some (.int x2), some (.int x3), none, none, none] [] (Rp (xD x) w) 0 0) (hrec38 : ∀ (a0 : Nat) (x1 : Int32) (x2 : Int32) (x3 : Int32) (x4 : Int32) (w : Wd), rec38 a0 x1 x2 x3 x4 w = some (r0, w0) → (zL w 6 a0 = true) → V x 38 [some (.ref a0), some (.int x1), some (.int x2), some (.int x3), some (.int x4), none, none] [] (Rp (xD x) w) 0 0) : ∀ (n : Nat) (a0 : Nat) (x1 : Int32) (x2 : Int32) (x3 : Int32) (x4 : Int32) (x5 : Int32) (x6 : Int32) (w : Wd), (zL w 6 a0 = true) → fX6_measures_l92 rec27 rec38 n a0 x1 x2 x3 x4 x5 x6 w = some (r0, w0) → V x 92 [some (.ref a0), some (.int x1), some (.int x2), some (.int x3), some (.int x4), some (.int x5), some (.int x6)] [] (Rp (xD x) w) 0 0 := by
  intro n
  induction n with
  | zero => intro a0 x1 x2 x3 x4 x5 x6 w hl0 h; cases h
  | succ n ih =>
    intro a0 x1 x2 x3 x4 x5 x6 w hl0 h
    exact vX6_measures_b92 hx hq hrec27 hrec38 (fun a0 x1 x2 x3 x4 x5 x6 w h hl0 => ih a0 x1 x2 x3 x4 x5 x6 w hl0 h) hl0 h
theorem vX6_measures_b85 {x : CT} (hx : CX x cX6_measures RX6 rmX6_measures (some .int)) {r0 : Int32} {w0 : Wd} (hq : RI x rmX6_measures r0 w0) {rec27 : Nat → Int32 → Int32 → Int32 → Wd → Option (Int32 × Wd)} {rec38 : Nat → Int32 → Int32 → Int32 → Int32 → Wd → Option (Int32 × Wd)} {a0 : Nat} {x1 : Int32} {x2 : Int32} {x3 : Int32} {x4 : Int32} {xs0 : Int32} {w : Wd} (hrec27 : ∀ (a0 : Nat) (x1 : Int32) (x2 : Int32) (x3 : Int32) (w : Wd), rec27 a0 x1 x2 x3 w = some (r0, w0) → (zL w 6 a0 = true) → V x 27 [some (.ref a0), some (.int x1), some (.int x2), some (.int x3), none, none, none] [] (Rp (xD x) w) 0 0) (hrec38 : ∀ (a0 : Nat) (x1 : Int32) (x2 : Int32) (x3 : Int32) (x4 : Int32) (w : Wd), rec38 a0 x1 x2 x3 x4 w = some (r0, w0) → (zL w 6 a0 = true) → V x 38 [some (.ref a0), some (.int x1), some (.int x2), some (.int x3), some (.int x4), none, none] [] (Rp (xD x) w) 0 0) (hl0 : zL w 6 a0 = true) (h : fX6_measures_b85 rec27 rec38 a0 x1 x2 x3 x4 xs0 w = some (r0, w0)) : V x 85 [some (.ref a0), some (.int x1), some (.int x2), some (.int x3), some (.int x4), none, none] [.int xs0] (Rp (xD x) w) 0 0 := by
  unfold fX6_measures_b85 at h
  refine v_istore (pc' := 87) (L' := [some (.ref a0), some (.int x1), some (.int x2), some (.int x3), some (.int x4), some (.int xs0), none]) hx dX6_measures_85 rfl rfl (Nat.le_of_ble_eq_true rfl) ?_
  refine v_iload_n (pc' := 88) hx dX6_measures_87 rfl rfl ?_
  refine v_iconst (pc' := 89) (v := 1) hx dX6_measures_88 (by decide) rfl ?_
  refine v_iadd (pc' := 90) hx dX6_measures_89 rfl ?_
  refine v_istore (pc' := 92) (L' := [some (.ref a0), some (.int x1), some (.int x2), some (.int x3), some (.int x4), some (.int xs0), some (.int (x1 + 1))]) hx dX6_measures_90 rfl rfl (Nat.le_of_ble_eq_true rfl) ?_
  exact vX6_measures_l92 hx hq hrec27 hrec38 1000 a0 x1 x2 x3 x4 xs0 (x1 + 1) w hl0 h
theorem vX6_measures_b84 {x : CT} (hx : CX x cX6_measures RX6 rmX6_measures (some .int)) {r0 : Int32} {w0 : Wd} (hq : RI x rmX6_measures r0 w0) {rec27 : Nat → Int32 → Int32 → Int32 → Wd → Option (Int32 × Wd)} {rec38 : Nat → Int32 → Int32 → Int32 → Int32 → Wd → Option (Int32 × Wd)} {a0 : Nat} {x1 : Int32} {x2 : Int32} {x3 : Int32} {x4 : Int32} {w : Wd} (hrec27 : ∀ (a0 : Nat) (x1 : Int32) (x2 : Int32) (x3 : Int32) (w : Wd), rec27 a0 x1 x2 x3 w = some (r0, w0) → (zL w 6 a0 = true) → V x 27 [some (.ref a0), some (.int x1), some (.int x2), some (.int x3), none, none, none] [] (Rp (xD x) w) 0 0) (hrec38 : ∀ (a0 : Nat) (x1 : Int32) (x2 : Int32) (x3 : Int32) (x4 : Int32) (w : Wd), rec38 a0 x1 x2 x3 x4 w = some (r0, w0) → (zL w 6 a0 = true) → V x 38 [some (.ref a0), some (.int x1), some (.int x2), some (.int x3), some (.int x4), none, none] [] (Rp (xD x) w) 0 0) (hl0 : zL w 6 a0 = true) (h : fX6_measures_b84 rec27 rec38 a0 x1 x2 x3 x4 w = some (r0, w0)) : V x 84 [some (.ref a0), some (.int x1), some (.int x2), some (.int x3), some (.int x4), none, none] [] (Rp (xD x) w) 0 0 := by
  unfold fX6_measures_b84 at h
  refine v_iconst (pc' := 85) (v := 0) hx dX6_measures_84 (by decide) rfl ?_
  exact vX6_measures_b85 hx hq hrec27 hrec38 hl0 h
theorem vX6_measures_b38 {x : CT} (hx : CX x cX6_measures RX6 rmX6_measures (some .int)) {r0 : Int32} {w0 : Wd} (hq : RI x rmX6_measures r0 w0) {rec27 : Nat → Int32 → Int32 → Int32 → Wd → Option (Int32 × Wd)} {rec38 : Nat → Int32 → Int32 → Int32 → Int32 → Wd → Option (Int32 × Wd)} {a0 : Nat} {x1 : Int32} {x2 : Int32} {x3 : Int32} {x4 : Int32} {w : Wd} (hrec27 : ∀ (a0 : Nat) (x1 : Int32) (x2 : Int32) (x3 : Int32) (w : Wd), rec27 a0 x1 x2 x3 w = some (r0, w0) → (zL w 6 a0 = true) → V x 27 [some (.ref a0), some (.int x1), some (.int x2), some (.int x3), none, none, none] [] (Rp (xD x) w) 0 0) (hrec38 : ∀ (a0 : Nat) (x1 : Int32) (x2 : Int32) (x3 : Int32) (x4 : Int32) (w : Wd), rec38 a0 x1 x2 x3 x4 w = some (r0, w0) → (zL w 6 a0 = true) → V x 38 [some (.ref a0), some (.int x1), some (.int x2), some (.int x3), some (.int x4), none, none] [] (Rp (xD x) w) 0 0) (hl0 : zL w 6 a0 = true) (h : fX6_measures_b38 rec27 rec38 a0 x1 x2 x3 x4 w = some (r0, w0)) : V x 38 [some (.ref a0), some (.int x1), some (.int x2), some (.int x3), some (.int x4), none, none] [] (Rp (xD x) w) 0 0 := by
  unfold fX6_measures_b38 at h
  refine v_iload (pc' := 40) hx dX6_measures_38 rfl rfl ?_
  refine v_bipush (pc' := 42) (v := 16) hx dX6_measures_40 (by decide) rfl ?_
  refine v_icmp_ge (tgt := 170) (pc' := 45) hx dX6_measures_42 (by decide) rfl (fun hc_1 => ?_) (fun hc_1 => ?_)
  · rw [if_pos hc_1] at h
    refine v_iinc (pc' := 173) (w0 := (x3 + 1)) (L' := [some (.ref a0), some (.int x1), some (.int x2), some (.int (x3 + 1)), some (.int x4), none, none]) hx dX6_measures_170 rfl rfl rfl rfl ?_
    refine v_goto (tgt := 27) hx dX6_measures_173 (by decide) ?_
    refine V.sb (L' := [some (.ref a0), some (.int x1), some (.int x2), some (.int (x3 + 1)), none, none, none]) ⟨Or.inr rfl, Or.inr rfl, Or.inr rfl, Or.inr rfl, Or.inl rfl, Or.inl rfl, Or.inl rfl, trivial⟩ ?_
    exact hrec27 a0 x1 x2 (x3 + 1) w h hl0
  · rw [if_neg hc_1] at h
    refine v_aload_n (pc' := 46) hx dX6_measures_45 rfl rfl ?_
    obtain ⟨g_2, hq_3⟩ : ∃ q, zA w 6 a0 26 = q := ⟨_, rfl⟩
    refine v_getAq (pc' := 49) hx hl0 fi_6_26.1 (by decide) hq_3 fk_X6_55 dX6_measures_46 rfl ?_
    refine v_iload (pc' := 51) hx dX6_measures_49 rfl rfl ?_
    replace h := ckp_inv h; obtain ⟨hk_4, h⟩ := h
    refine v_ialdq (pc' := 52) hx hl0 fi_6_26.1 fi_6_26.2.1 rfl hk_4 hq_3 dX6_measures_51 rfl ?_
    refine v_bipush (pc' := 54) (v := 100) hx dX6_measures_52 (by decide) rfl ?_
    refine v_icmp_ge (tgt := 60) (pc' := 57) hx dX6_measures_54 (by decide) rfl (fun hc_5 => ?_) (fun hc_5 => ?_)
    · rw [if_pos hc_5] at h
      refine v_iload_n (pc' := 61) hx dX6_measures_60 rfl rfl ?_
      refine v_iconst (pc' := 62) (v := 1) hx dX6_measures_61 (by decide) rfl ?_
      refine v_icmp_ne (tgt := 84) (pc' := 65) hx dX6_measures_62 (by decide) rfl (fun hc_6 => ?_) (fun hc_6 => ?_)
      · rw [if_neg hc_6] at h
        exact vX6_measures_b84 hx hq hrec27 hrec38 hl0 h
      · rw [if_pos hc_6] at h
        refine v_aload_n (pc' := 66) hx dX6_measures_65 rfl rfl ?_
        obtain ⟨g_7, hq_8⟩ : ∃ q, zA w 6 a0 25 = q := ⟨_, rfl⟩
        refine v_getAq (pc' := 69) hx hl0 fi_6_25.1 (by decide) hq_8 fk_X6_52 dX6_measures_66 rfl ?_
        refine v_iload (pc' := 71) hx dX6_measures_69 rfl rfl ?_
        replace h := ckp_inv h; obtain ⟨hk_9, h⟩ := h
        refine v_ialdq (pc' := 72) hx hl0 fi_6_25.1 fi_6_25.2.1 rfl hk_9 hq_8 dX6_measures_71 rfl ?_
        refine v_iload_n (pc' := 73) hx dX6_measures_72 rfl rfl ?_
        refine v_ishr (pc' := 74) hx dX6_measures_73 rfl ?_
        refine v_iconst (pc' := 75) (v := 1) hx dX6_measures_74 (by decide) rfl ?_
        refine v_iand (pc' := 76) hx dX6_measures_75 rfl ?_
        refine v_iconst (pc' := 77) (v := 1) hx dX6_measures_76 (by decide) rfl ?_
        refine v_icmp_ne (tgt := 84) (pc' := 80) hx dX6_measures_77 (by decide) rfl (fun hc_10 => ?_) (fun hc_10 => ?_)
        · rw [if_neg hc_10] at h
          exact vX6_measures_b84 hx hq hrec27 hrec38 hl0 h
        · rw [if_pos hc_10] at h
          refine v_iconst (pc' := 81) (v := 1) hx dX6_measures_80 (by decide) rfl ?_
          refine v_goto (tgt := 85) hx dX6_measures_81 (by decide) ?_
          exact vX6_measures_b85 hx hq hrec27 hrec38 hl0 h
    · rw [if_neg hc_5] at h
      refine v_goto (tgt := 164) hx dX6_measures_57 (by decide) ?_
      exact vX6_measures_b164 hx hq hrec27 hrec38 hl0 h
theorem vX6_measures_l38 {x : CT} (hx : CX x cX6_measures RX6 rmX6_measures (some .int)) {r0 : Int32} {w0 : Wd} (hq : RI x rmX6_measures r0 w0) {rec27 : Nat → Int32 → Int32 → Int32 → Wd → Option (Int32 × Wd)} (hrec27 : ∀ (a0 : Nat) (x1 : Int32) (x2 : Int32) (x3 : Int32) (w : Wd), rec27 a0 x1 x2 x3 w = some (r0, w0) → (zL w 6 a0 = true) → V x 27 [some (.ref a0), some (.int x1), some (.int x2), some (.int x3), none, none, none] [] (Rp (xD x) w) 0 0) : ∀ (n : Nat) (a0 : Nat) (x1 : Int32) (x2 : Int32) (x3 : Int32) (x4 : Int32) (w : Wd), (zL w 6 a0 = true) → fX6_measures_l38 rec27 n a0 x1 x2 x3 x4 w = some (r0, w0) → V x 38 [some (.ref a0), some (.int x1), some (.int x2), some (.int x3), some (.int x4), none, none] [] (Rp (xD x) w) 0 0 := by
  intro n
  induction n with
  | zero => intro a0 x1 x2 x3 x4 w hl0 h; cases h
  | succ n ih =>
    intro a0 x1 x2 x3 x4 w hl0 h
    exact vX6_measures_b38 hx hq hrec27 (fun a0 x1 x2 x3 x4 w h hl0 => ih a0 x1 x2 x3 x4 w hl0 h) hl0 h
theorem vX6_measures_b27 {x : CT} (hx : CX x cX6_measures RX6 rmX6_measures (some .int)) {r0 : Int32} {w0 : Wd} (hq : RI x rmX6_measures r0 w0) {rec27 : Nat → Int32 → Int32 → Int32 → Wd → Option (Int32 × Wd)} {a0 : Nat} {x1 : Int32} {x2 : Int32} {x3 : Int32} {w : Wd} (hrec27 : ∀ (a0 : Nat) (x1 : Int32) (x2 : Int32) (x3 : Int32) (w : Wd), rec27 a0 x1 x2 x3 w = some (r0, w0) → (zL w 6 a0 = true) → V x 27 [some (.ref a0), some (.int x1), some (.int x2), some (.int x3), none, none, none] [] (Rp (xD x) w) 0 0) (hl0 : zL w 6 a0 = true) (h : fX6_measures_b27 rec27 a0 x1 x2 x3 w = some (r0, w0)) : V x 27 [some (.ref a0), some (.int x1), some (.int x2), some (.int x3), none, none, none] [] (Rp (xD x) w) 0 0 := by
  unfold fX6_measures_b27 at h
  refine v_iload_n (pc' := 28) hx dX6_measures_27 rfl rfl ?_
  refine v_bipush (pc' := 30) (v := 16) hx dX6_measures_28 (by decide) rfl ?_
  refine v_icmp_gt (tgt := 176) (pc' := 33) hx dX6_measures_30 (by decide) rfl (fun hc_1 => ?_) (fun hc_1 => ?_)
  · rw [if_pos hc_1] at h
    refine v_iload_n (pc' := 177) hx dX6_measures_176 rfl rfl ?_
    refine v_iconst (pc' := 178) (v := 1) hx dX6_measures_177 (by decide) rfl ?_
    refine v_iadd (pc' := 179) hx dX6_measures_178 rfl ?_
    refine v_istore_n (pc' := 180) (L' := [some (.ref a0), some (.int x1), some (.int x2), some (.int (x1 + 1)), none, none, none]) hx dX6_measures_179 rfl rfl (Nat.le_of_ble_eq_true rfl) ?_
    exact vX6_measures_l180 hx hq 1000 a0 x1 x2 (x1 + 1) w hl0 h
  · rw [if_neg hc_1] at h
    refine v_iload_n (pc' := 34) hx dX6_measures_33 rfl rfl ?_
    refine v_iconst (pc' := 35) (v := 1) hx dX6_measures_34 (by decide) rfl ?_
    refine v_iadd (pc' := 36) hx dX6_measures_35 rfl ?_
    refine v_istore (pc' := 38) (L' := [some (.ref a0), some (.int x1), some (.int x2), some (.int x3), some (.int (x1 + 1)), none, none]) hx dX6_measures_36 rfl rfl (Nat.le_of_ble_eq_true rfl) ?_
    exact vX6_measures_l38 hx hq hrec27 1000 a0 x1 x2 x3 (x1 + 1) w hl0 h
theorem vX6_measures_l27 {x : CT} (hx : CX x cX6_measures RX6 rmX6_measures (some .int)) {r0 : Int32} {w0 : Wd} (hq : RI x rmX6_measures r0 w0) : ∀ (n : Nat) (a0 : Nat) (x1 : Int32) (x2 : Int32) (x3 : Int32) (w : Wd), (zL w 6 a0 = true) → fX6_measures_l27  n a0 x1 x2 x3 w = some (r0, w0) → V x 27 [some (.ref a0), some (.int x1), some (.int x2), some (.int x3), none, none, none] [] (Rp (xD x) w) 0 0 := by
  intro n
  induction n with
  | zero => intro a0 x1 x2 x3 w hl0 h; cases h
  | succ n ih =>
    intro a0 x1 x2 x3 w hl0 h
    exact vX6_measures_b27 hx hq  (fun a0 x1 x2 x3 w h hl0 => ih a0 x1 x2 x3 w hl0 h) hl0 h
theorem vX6_measures_b2 {x : CT} (hx : CX x cX6_measures RX6 rmX6_measures (some .int)) {r0 : Int32} {w0 : Wd} (hq : RI x rmX6_measures r0 w0) {rec2 : Nat → Int32 → Int32 → Wd → Option (Int32 × Wd)} {a0 : Nat} {x1 : Int32} {x2 : Int32} {w : Wd} (hrec2 : ∀ (a0 : Nat) (x1 : Int32) (x2 : Int32) (w : Wd), rec2 a0 x1 x2 w = some (r0, w0) → (zL w 6 a0 = true) → V x 2 [some (.ref a0), some (.int x1), some (.int x2), none, none, none, none] [] (Rp (xD x) w) 0 0) (hl0 : zL w 6 a0 = true) (h : fX6_measures_b2 rec2 a0 x1 x2 w = some (r0, w0)) : V x 2 [some (.ref a0), some (.int x1), some (.int x2), none, none, none, none] [] (Rp (xD x) w) 0 0 := by
  unfold fX6_measures_b2 at h
  refine v_iload_n (pc' := 3) hx dX6_measures_2 rfl rfl ?_
  refine v_bipush (pc' := 5) (v := 16) hx dX6_measures_3 (by decide) rfl ?_
  refine v_icmp_ge (tgt := 22) (pc' := 8) hx dX6_measures_5 (by decide) rfl (fun hc_1 => ?_) (fun hc_1 => ?_)
  · rw [if_pos hc_1] at h
    refine v_bipush (pc' := 24) (v := 100) hx dX6_measures_22 (by decide) rfl ?_
    refine v_istore_n (pc' := 25) (L' := [some (.ref a0), some (.int x1), some (.int 100), none, none, none, none]) hx dX6_measures_24 rfl rfl (Nat.le_of_ble_eq_true rfl) ?_
    refine v_iconst (pc' := 26) (v := 1) hx dX6_measures_25 (by decide) rfl ?_
    refine v_istore_n (pc' := 27) (L' := [some (.ref a0), some (.int x1), some (.int 100), some (.int 1), none, none, none]) hx dX6_measures_26 rfl rfl (Nat.le_of_ble_eq_true rfl) ?_
    exact vX6_measures_l27 hx hq 1000 a0 x1 100 1 w hl0 h
  · rw [if_neg hc_1] at h
    refine v_aload_n (pc' := 9) hx dX6_measures_8 rfl rfl ?_
    obtain ⟨g_2, hq_3⟩ : ∃ q, zA w 6 a0 26 = q := ⟨_, rfl⟩
    refine v_getAq (pc' := 12) hx hl0 fi_6_26.1 (by decide) hq_3 fk_X6_55 dX6_measures_9 rfl ?_
    refine v_iload_n (pc' := 13) hx dX6_measures_12 rfl rfl ?_
    refine v_bipush (pc' := 15) (v := 100) hx dX6_measures_13 (by decide) rfl ?_
    replace h := ckp_inv h; obtain ⟨hk_4, h⟩ := h
    refine v_iastq (pc' := 16) hx hl0 fi_6_26.1 fi_6_26.2.1 rfl hk_4 hq_3 dX6_measures_15 rfl ?_
    replace h := lt_inv h; obtain ⟨w_5, ew_6, h⟩ := h
    rw [← ew_6]
    have hl_7 : zL w_5 6 a0 = true := by rw [ew_6]; exact hl0
    refine v_iinc (pc' := 19) (w0 := (x2 + 1)) (L' := [some (.ref a0), some (.int x1), some (.int (x2 + 1)), none, none, none, none]) hx dX6_measures_16 rfl rfl rfl rfl ?_
    refine v_goto (tgt := 2) hx dX6_measures_19 (by decide) ?_
    exact hrec2 a0 x1 (x2 + 1) w_5 h hl_7
theorem vX6_measures_l2 {x : CT} (hx : CX x cX6_measures RX6 rmX6_measures (some .int)) {r0 : Int32} {w0 : Wd} (hq : RI x rmX6_measures r0 w0) : ∀ (n : Nat) (a0 : Nat) (x1 : Int32) (x2 : Int32) (w : Wd), (zL w 6 a0 = true) → fX6_measures_l2  n a0 x1 x2 w = some (r0, w0) → V x 2 [some (.ref a0), some (.int x1), some (.int x2), none, none, none, none] [] (Rp (xD x) w) 0 0 := by
  intro n
  induction n with
  | zero => intro a0 x1 x2 w hl0 h; cases h
  | succ n ih =>
    intro a0 x1 x2 w hl0 h
    exact vX6_measures_b2 hx hq  (fun a0 x1 x2 w h hl0 => ih a0 x1 x2 w hl0 h) hl0 h
theorem vX6_measures {x : CT} (hx : CX x cX6_measures RX6 rmX6_measures (some .int)) {r0 : Int32} {w0 : Wd} {w : Wd} (hq : RI x rmX6_measures r0 w0) (a0 : Nat) (x1 : Int32) (hl0 : zL w 6 a0 = true) (h : fX6_measures a0 x1 w = some (r0, w0)) : V x 0 [some (.ref a0), some (.int x1), none, none, none, none, none] [] (Rp (xD x) w) 0 0 := by
  unfold fX6_measures at h
  refine v_iconst (pc' := 1) (v := 0) hx dX6_measures_0 (by decide) rfl ?_
  refine v_istore_n (pc' := 2) (L' := [some (.ref a0), some (.int x1), some (.int 0), none, none, none, none]) hx dX6_measures_1 rfl rfl (Nat.le_of_ble_eq_true rfl) ?_
  exact vX6_measures_l2 hx hq 1000 a0 x1 0 w hl0 h
theorem ctX6_measures (l : Launch) (D : DD) (w : Wd) (G : GT) (sz : Nat) (hR : Rp D w G sz) (a0 : Nat) (x1 : Int32) (hl0 : zL w 6 a0 = true) {r0 : Int32} {w0 : Wd} (h : fX6_measures a0 x1 w = some (r0, w0)) : MetI l yX6_measures (WS yX6_measures cX6_measures 7 (some .int)) rmX6_measures D [.ref a0, .int x1] G sz r0 w0 := by
  refine MetI_ofV (own := RX6) (P := Rp D w) hR (by decide) rfl (by simp [Value.category]) (Nat.le_of_ble_eq_true rfl) (fun x hx hq hD hl => ?_)
  subst hD
  exact vX6_measures hx hq a0 x1 hl0 h
theorem kX6_breaks_b122 {w0 : Wd} {rec12 : Nat → Int32 → Wd → Option (Wd)} {a0 : Nat} {x1 : Int32} {w wb : Wd} (hkr12 : ∀ (a0 : Nat) (x1 : Int32) (w : Wd), rec12 a0 x1 w = some w0 → mo wb w → mo wb w0) (hm : mo wb w) (h : fX6_breaks_b122 rec12 a0 x1 w = some w0) : mo wb w0 := by
  unfold fX6_breaks_b122 at h
  exact hkr12 a0 (x1 + 1) w h hm
theorem kX6_breaks_b107 {w0 : Wd} {rec12 : Nat → Int32 → Wd → Option (Wd)} {rec45 : Nat → Int32 → Int32 → Int32 → Int32 → Wd → Option (Wd)} {rec66 : Nat → Int32 → Int32 → Int32 → Int32 → Int32 → Int32 → Wd → Option (Wd)} {a0 : Nat} {x1 : Int32} {x2 : Int32} {x3 : Int32} {x4 : Int32} {x5 : Int32} {x6 : Int32} {w wb : Wd} (hkr12 : ∀ (a0 : Nat) (x1 : Int32) (w : Wd), rec12 a0 x1 w = some w0 → mo wb w → mo wb w0) (hkr45 : ∀ (a0 : Nat) (x1 : Int32) (x2 : Int32) (x3 : Int32) (x4 : Int32) (w : Wd), rec45 a0 x1 x2 x3 x4 w = some w0 → mo wb w → mo wb w0) (hkr66 : ∀ (a0 : Nat) (x1 : Int32) (x2 : Int32) (x3 : Int32) (x4 : Int32) (x5 : Int32) (x6 : Int32) (w : Wd), rec66 a0 x1 x2 x3 x4 x5 x6 w = some w0 → mo wb w → mo wb w0) (hm : mo wb w) (h : fX6_breaks_b107 rec12 rec45 rec66 a0 x1 x2 x3 x4 x5 x6 w = some w0) : mo wb w0 := by
  unfold fX6_breaks_b107 at h
  exact hkr66 a0 x1 x2 x3 x4 x5 (x6 + (-1)) w h hm
theorem kX6_breaks_b66 {w0 : Wd} {rec12 : Nat → Int32 → Wd → Option (Wd)} {rec45 : Nat → Int32 → Int32 → Int32 → Int32 → Wd → Option (Wd)} {rec66 : Nat → Int32 → Int32 → Int32 → Int32 → Int32 → Int32 → Wd → Option (Wd)} {a0 : Nat} {x1 : Int32} {x2 : Int32} {x3 : Int32} {x4 : Int32} {x5 : Int32} {x6 : Int32} {w wb : Wd} (hkr12 : ∀ (a0 : Nat) (x1 : Int32) (w : Wd), rec12 a0 x1 w = some w0 → mo wb w → mo wb w0) (hkr45 : ∀ (a0 : Nat) (x1 : Int32) (x2 : Int32) (x3 : Int32) (x4 : Int32) (w : Wd), rec45 a0 x1 x2 x3 x4 w = some w0 → mo wb w → mo wb w0) (hkr66 : ∀ (a0 : Nat) (x1 : Int32) (x2 : Int32) (x3 : Int32) (x4 : Int32) (x5 : Int32) (x6 : Int32) (w : Wd), rec66 a0 x1 x2 x3 x4 x5 x6 w = some w0 → mo wb w → mo wb w0) (hm : mo wb w) (h : fX6_breaks_b66 rec12 rec45 rec66 a0 x1 x2 x3 x4 x5 x6 w = some w0) : mo wb w0 := by
  unfold fX6_breaks_b66 at h
  by_cases hc_1 : x6 ≤ x1
  · rw [if_pos hc_1] at h
    exact hkr45 a0 x1 x2 x5 (x4 + 1) w h hm
  · rw [if_neg hc_1] at h
    replace h := ckp_inv h; obtain ⟨hk_4, h⟩ := h
    by_cases hc_5 : (((zI w 6 a0 25 (x3 : Int32).toNatClampNeg) >>> (x6 &&& 31)) &&& 1) = 1
    · rw [if_pos hc_5] at h
      replace h := ckp_inv h; obtain ⟨hk_8, h⟩ := h
      by_cases hc_9 : (zI w 6 a0 26 (x6 : Int32).toNatClampNeg) = ((x2 - 1) - x4)
      · rw [if_pos hc_9] at h
        exact kX6_breaks_b107 hkr12 hkr45 hkr66 hm h
      · rw [if_neg hc_9] at h
        exact kX6_breaks_b107 hkr12 hkr45 hkr66 hm h
    · rw [if_neg hc_5] at h
      exact kX6_breaks_b107 hkr12 hkr45 hkr66 hm h
theorem kX6_breaks_l66 {w0 : Wd} {rec12 : Nat → Int32 → Wd → Option (Wd)} {rec45 : Nat → Int32 → Int32 → Int32 → Int32 → Wd → Option (Wd)} {wb : Wd} (hkr12 : ∀ (a0 : Nat) (x1 : Int32) (w : Wd), rec12 a0 x1 w = some w0 → mo wb w → mo wb w0) (hkr45 : ∀ (a0 : Nat) (x1 : Int32) (x2 : Int32) (x3 : Int32) (x4 : Int32) (w : Wd), rec45 a0 x1 x2 x3 x4 w = some w0 → mo wb w → mo wb w0) : ∀ (n : Nat) (a0 : Nat) (x1 : Int32) (x2 : Int32) (x3 : Int32) (x4 : Int32) (x5 : Int32) (x6 : Int32) (w : Wd), mo wb w → fX6_breaks_l66 rec12 rec45 n a0 x1 x2 x3 x4 x5 x6 w = some w0 → mo wb w0 := by
  intro n
  induction n with
  | zero => intro a0 x1 x2 x3 x4 x5 x6 w hm h; cases h
  | succ n ih =>
    intro a0 x1 x2 x3 x4 x5 x6 w hm h
    exact kX6_breaks_b66 hkr12 hkr45 (fun a0 x1 x2 x3 x4 x5 x6 w h hm => ih a0 x1 x2 x3 x4 x5 x6 w hm h) hm h
theorem kX6_breaks_b45 {w0 : Wd} {rec12 : Nat → Int32 → Wd → Option (Wd)} {rec45 : Nat → Int32 → Int32 → Int32 → Int32 → Wd → Option (Wd)} {a0 : Nat} {x1 : Int32} {x2 : Int32} {x3 : Int32} {x4 : Int32} {w wb : Wd} (hkr12 : ∀ (a0 : Nat) (x1 : Int32) (w : Wd), rec12 a0 x1 w = some w0 → mo wb w → mo wb w0) (hkr45 : ∀ (a0 : Nat) (x1 : Int32) (x2 : Int32) (x3 : Int32) (x4 : Int32) (w : Wd), rec45 a0 x1 x2 x3 x4 w = some w0 → mo wb w → mo wb w0) (hm : mo wb w) (h : fX6_breaks_b45 rec12 rec45 a0 x1 x2 x3 x4 w = some w0) : mo wb w0 := by
  unfold fX6_breaks_b45 at h
  by_cases hc_1 : x2 ≤ x4
  · rw [if_pos hc_1] at h
    exact kX6_breaks_b122 hkr12 hm h
  · rw [if_neg hc_1] at h
    replace h := ckp_inv h; obtain ⟨hk_4, h⟩ := h
    replace h := lt_inv h; obtain ⟨w_5, ew_6, h⟩ := h
    have hm := mo_eI hm ew_6
    exact kX6_breaks_l66 hkr12 hkr45 1000 a0 x1 x2 x3 x4 0 15 w_5 hm h
theorem kX6_breaks_l45 {w0 : Wd} {rec12 : Nat → Int32 → Wd → Option (Wd)} {wb : Wd} (hkr12 : ∀ (a0 : Nat) (x1 : Int32) (w : Wd), rec12 a0 x1 w = some w0 → mo wb w → mo wb w0) : ∀ (n : Nat) (a0 : Nat) (x1 : Int32) (x2 : Int32) (x3 : Int32) (x4 : Int32) (w : Wd), mo wb w → fX6_breaks_l45 rec12 n a0 x1 x2 x3 x4 w = some w0 → mo wb w0 := by
  intro n
  induction n with
  | zero => intro a0 x1 x2 x3 x4 w hm h; cases h
  | succ n ih =>
    intro a0 x1 x2 x3 x4 w hm h
    exact kX6_breaks_b45 hkr12 (fun a0 x1 x2 x3 x4 w h hm => ih a0 x1 x2 x3 x4 w hm h) hm h
theorem kX6_breaks_b12 {w0 : Wd} {rec12 : Nat → Int32 → Wd → Option (Wd)} {a0 : Nat} {x1 : Int32} {w wb : Wd} (hkr12 : ∀ (a0 : Nat) (x1 : Int32) (w : Wd), rec12 a0 x1 w = some w0 → mo wb w → mo wb w0) (hm : mo wb w) (h : fX6_breaks_b12 rec12 a0 x1 w = some w0) : mo wb w0 := by
  unfold fX6_breaks_b12 at h
  by_cases hc_1 : 16 ≤ x1
  · rw [if_pos hc_1] at h
    cases h; exact hm
  · rw [if_neg hc_1] at h
    replace h := bd2_inv h; obtain ⟨y_3, w_4, hcl_2, h⟩ := h
    have hm := hm.tr (kX6_measures hcl_2)
    by_cases hc_9 : y_3 < (zI w_4 6 a0 28 0)
    · rw [if_pos hc_9] at h
      replace h := lt_inv h; obtain ⟨w_10, ew_11, h⟩ := h
      have hm := mo_eI hm ew_11
      exact kX6_breaks_l45 hkr12 1000 a0 x1 y_3 x1 0 w_10 hm h
    · rw [if_neg hc_9] at h
      exact kX6_breaks_b122 hkr12 hm h
theorem kX6_breaks_l12 {w0 : Wd} {wb : Wd} : ∀ (n : Nat) (a0 : Nat) (x1 : Int32) (w : Wd), mo wb w → fX6_breaks_l12  n a0 x1 w = some w0 → mo wb w0 := by
  intro n
  induction n with
  | zero => intro a0 x1 w hm h; cases h
  | succ n ih =>
    intro a0 x1 w hm h
    exact kX6_breaks_b12  (fun a0 x1 w h hm => ih a0 x1 w hm h) hm h
theorem kX6_breaks {w0 : Wd} {a0 : Nat} {w : Wd} (h : fX6_breaks a0 w = some w0) : mo w w0 := by
  have hm := mo_rf w
  unfold fX6_breaks at h
  replace h := bd_inv h; obtain ⟨w_2, hcl_1, h⟩ := h
  have hm := hm.tr (kX6_aheads hcl_1)
  replace h := lt_inv h; obtain ⟨w_7, ew_8, h⟩ := h
  have hm := mo_eI hm ew_8
  exact kX6_breaks_l12 1000 a0 0 w_7 hm h
theorem vX6_breaks_b122 {x : CT} (hx : CX x cX6_breaks RX6 rmX6_breaks none) {w0 : Wd} (hq : RV x rmX6_breaks w0) {rec12 : Nat → Int32 → Wd → Option (Wd)} {a0 : Nat} {x1 : Int32} {w : Wd} (hrec12 : ∀ (a0 : Nat) (x1 : Int32) (w : Wd), rec12 a0 x1 w = some w0 → (zL w 6 a0 = true) → V x 12 [some (.ref a0), some (.int x1), none, none, none, none, none] [] (Rp (xD x) w) 0 0) (hl0 : zL w 6 a0 = true) (h : fX6_breaks_b122 rec12 a0 x1 w = some w0) : V x 122 [some (.ref a0), some (.int x1), none, none, none, none, none] [] (Rp (xD x) w) 0 0 := by
  unfold fX6_breaks_b122 at h
  refine v_iinc (pc' := 125) (w0 := (x1 + 1)) (L' := [some (.ref a0), some (.int (x1 + 1)), none, none, none, none, none]) hx dX6_breaks_122 rfl rfl rfl rfl ?_
  refine v_goto (tgt := 12) hx dX6_breaks_125 (by decide) ?_
  exact hrec12 a0 (x1 + 1) w h hl0
theorem vX6_breaks_b107 {x : CT} (hx : CX x cX6_breaks RX6 rmX6_breaks none) {w0 : Wd} (hq : RV x rmX6_breaks w0) {rec12 : Nat → Int32 → Wd → Option (Wd)} {rec45 : Nat → Int32 → Int32 → Int32 → Int32 → Wd → Option (Wd)} {rec66 : Nat → Int32 → Int32 → Int32 → Int32 → Int32 → Int32 → Wd → Option (Wd)} {a0 : Nat} {x1 : Int32} {x2 : Int32} {x3 : Int32} {x4 : Int32} {x5 : Int32} {x6 : Int32} {w : Wd} (hrec12 : ∀ (a0 : Nat) (x1 : Int32) (w : Wd), rec12 a0 x1 w = some w0 → (zL w 6 a0 = true) → V x 12 [some (.ref a0), some (.int x1), none, none, none, none, none] [] (Rp (xD x) w) 0 0) (hrec45 : ∀ (a0 : Nat) (x1 : Int32) (x2 : Int32) (x3 : Int32) (x4 : Int32) (w : Wd), rec45 a0 x1 x2 x3 x4 w = some w0 → (zL w 6 a0 = true) → V x 45 [some (.ref a0), some (.int x1), some (.int x2), some (.int x3), some (.int x4), none, none] [] (Rp (xD x) w) 0 0) (hrec66 : ∀ (a0 : Nat) (x1 : Int32) (x2 : Int32) (x3 : Int32) (x4 : Int32) (x5 : Int32) (x6 : Int32) (w : Wd), rec66 a0 x1 x2 x3 x4 x5 x6 w = some w0 → (zL w 6 a0 = true) → V x 66 [some (.ref a0), some (.int x1), some (.int x2), some (.int x3), some (.int x4), some (.int x5), some (.int x6)] [] (Rp (xD x) w) 0 0) (hl0 : zL w 6 a0 = true) (h : fX6_breaks_b107 rec12 rec45 rec66 a0 x1 x2 x3 x4 x5 x6 w = some w0) : V x 107 [some (.ref a0), some (.int x1), some (.int x2), some (.int x3), some (.int x4), some (.int x5), some (.int x6)] [] (Rp (xD x) w) 0 0 := by
  unfold fX6_breaks_b107 at h
  refine v_iinc (pc' := 110) (w0 := (x6 + (-1))) (L' := [some (.ref a0), some (.int x1), some (.int x2), some (.int x3), some (.int x4), some (.int x5), some (.int (x6 + (-1)))]) hx dX6_breaks_107 rfl rfl rfl rfl ?_
  refine v_goto (tgt := 66) hx dX6_breaks_110 (by decide) ?_
  exact hrec66 a0 x1 x2 x3 x4 x5 (x6 + (-1)) w h hl0
theorem vX6_breaks_b66 {x : CT} (hx : CX x cX6_breaks RX6 rmX6_breaks none) {w0 : Wd} (hq : RV x rmX6_breaks w0) {rec12 : Nat → Int32 → Wd → Option (Wd)} {rec45 : Nat → Int32 → Int32 → Int32 → Int32 → Wd → Option (Wd)} {rec66 : Nat → Int32 → Int32 → Int32 → Int32 → Int32 → Int32 → Wd → Option (Wd)} {a0 : Nat} {x1 : Int32} {x2 : Int32} {x3 : Int32} {x4 : Int32} {x5 : Int32} {x6 : Int32} {w : Wd} (hrec12 : ∀ (a0 : Nat) (x1 : Int32) (w : Wd), rec12 a0 x1 w = some w0 → (zL w 6 a0 = true) → V x 12 [some (.ref a0), some (.int x1), none, none, none, none, none] [] (Rp (xD x) w) 0 0) (hrec45 : ∀ (a0 : Nat) (x1 : Int32) (x2 : Int32) (x3 : Int32) (x4 : Int32) (w : Wd), rec45 a0 x1 x2 x3 x4 w = some w0 → (zL w 6 a0 = true) → V x 45 [some (.ref a0), some (.int x1), some (.int x2), some (.int x3), some (.int x4), none, none] [] (Rp (xD x) w) 0 0) (hrec66 : ∀ (a0 : Nat) (x1 : Int32) (x2 : Int32) (x3 : Int32) (x4 : Int32) (x5 : Int32) (x6 : Int32) (w : Wd), rec66 a0 x1 x2 x3 x4 x5 x6 w = some w0 → (zL w 6 a0 = true) → V x 66 [some (.ref a0), some (.int x1), some (.int x2), some (.int x3), some (.int x4), some (.int x5), some (.int x6)] [] (Rp (xD x) w) 0 0) (hl0 : zL w 6 a0 = true) (h : fX6_breaks_b66 rec12 rec45 rec66 a0 x1 x2 x3 x4 x5 x6 w = some w0) : V x 66 [some (.ref a0), some (.int x1), some (.int x2), some (.int x3), some (.int x4), some (.int x5), some (.int x6)] [] (Rp (xD x) w) 0 0 := by
  unfold fX6_breaks_b66 at h
  refine v_iload (pc' := 68) hx dX6_breaks_66 rfl rfl ?_
  refine v_iload_n (pc' := 69) hx dX6_breaks_68 rfl rfl ?_
  refine v_icmp_le (tgt := 113) (pc' := 72) hx dX6_breaks_69 (by decide) rfl (fun hc_1 => ?_) (fun hc_1 => ?_)
  · rw [if_pos hc_1] at h
    refine v_iload (pc' := 115) hx dX6_breaks_113 rfl rfl ?_
    refine v_istore_n (pc' := 116) (L' := [some (.ref a0), some (.int x1), some (.int x2), some (.int x5), some (.int x4), some (.int x5), some (.int x6)]) hx dX6_breaks_115 rfl rfl (Nat.le_of_ble_eq_true rfl) ?_
    refine v_iinc (pc' := 119) (w0 := (x4 + 1)) (L' := [some (.ref a0), some (.int x1), some (.int x2), some (.int x5), some (.int (x4 + 1)), some (.int x5), some (.int x6)]) hx dX6_breaks_116 rfl rfl rfl rfl ?_
    refine v_goto (tgt := 45) hx dX6_breaks_119 (by decide) ?_
    refine V.sb (L' := [some (.ref a0), some (.int x1), some (.int x2), some (.int x5), some (.int (x4 + 1)), none, none]) ⟨Or.inr rfl, Or.inr rfl, Or.inr rfl, Or.inr rfl, Or.inr rfl, Or.inl rfl, Or.inl rfl, trivial⟩ ?_
    exact hrec45 a0 x1 x2 x5 (x4 + 1) w h hl0
  · rw [if_neg hc_1] at h
    refine v_aload_n (pc' := 73) hx dX6_breaks_72 rfl rfl ?_
    obtain ⟨g_2, hq_3⟩ : ∃ q, zA w 6 a0 25 = q := ⟨_, rfl⟩
    refine v_getAq (pc' := 76) hx hl0 fi_6_25.1 (by decide) hq_3 fk_X6_52 dX6_breaks_73 rfl ?_
    refine v_iload_n (pc' := 77) hx dX6_breaks_76 rfl rfl ?_
    replace h := ckp_inv h; obtain ⟨hk_4, h⟩ := h
    refine v_ialdq (pc' := 78) hx hl0 fi_6_25.1 fi_6_25.2.1 rfl hk_4 hq_3 dX6_breaks_77 rfl ?_
    refine v_iload (pc' := 80) hx dX6_breaks_78 rfl rfl ?_
    refine v_ishr (pc' := 81) hx dX6_breaks_80 rfl ?_
    refine v_iconst (pc' := 82) (v := 1) hx dX6_breaks_81 (by decide) rfl ?_
    refine v_iand (pc' := 83) hx dX6_breaks_82 rfl ?_
    refine v_iconst (pc' := 84) (v := 1) hx dX6_breaks_83 (by decide) rfl ?_
    refine v_icmp_ne (tgt := 107) (pc' := 87) hx dX6_breaks_84 (by decide) rfl (fun hc_5 => ?_) (fun hc_5 => ?_)
    · rw [if_neg hc_5] at h
      exact vX6_breaks_b107 hx hq hrec12 hrec45 hrec66 hl0 h
    · rw [if_pos hc_5] at h
      refine v_aload_n (pc' := 88) hx dX6_breaks_87 rfl rfl ?_
      obtain ⟨g_6, hq_7⟩ : ∃ q, zA w 6 a0 26 = q := ⟨_, rfl⟩
      refine v_getAq (pc' := 91) hx hl0 fi_6_26.1 (by decide) hq_7 fk_X6_55 dX6_breaks_88 rfl ?_
      refine v_iload (pc' := 93) hx dX6_breaks_91 rfl rfl ?_
      replace h := ckp_inv h; obtain ⟨hk_8, h⟩ := h
      refine v_ialdq (pc' := 94) hx hl0 fi_6_26.1 fi_6_26.2.1 rfl hk_8 hq_7 dX6_breaks_93 rfl ?_
      refine v_iload_n (pc' := 95) hx dX6_breaks_94 rfl rfl ?_
      refine v_iconst (pc' := 96) (v := 1) hx dX6_breaks_95 (by decide) rfl ?_
      refine v_isub (pc' := 97) hx dX6_breaks_96 rfl ?_
      refine v_iload (pc' := 99) hx dX6_breaks_97 rfl rfl ?_
      refine v_isub (pc' := 100) hx dX6_breaks_99 rfl ?_
      refine v_icmp_ne (tgt := 107) (pc' := 103) hx dX6_breaks_100 (by decide) rfl (fun hc_9 => ?_) (fun hc_9 => ?_)
      · rw [if_neg hc_9] at h
        exact vX6_breaks_b107 hx hq hrec12 hrec45 hrec66 hl0 h
      · rw [if_pos hc_9] at h
        refine v_iload (pc' := 105) hx dX6_breaks_103 rfl rfl ?_
        refine v_istore (pc' := 107) (L' := [some (.ref a0), some (.int x1), some (.int x2), some (.int x3), some (.int x4), some (.int x6), some (.int x6)]) hx dX6_breaks_105 rfl rfl (Nat.le_of_ble_eq_true rfl) ?_
        exact vX6_breaks_b107 hx hq hrec12 hrec45 hrec66 hl0 h
theorem vX6_breaks_l66 {x : CT} (hx : CX x cX6_breaks RX6 rmX6_breaks none) {w0 : Wd} (hq : RV x rmX6_breaks w0) {rec12 : Nat → Int32 → Wd → Option (Wd)} {rec45 : Nat → Int32 → Int32 → Int32 → Int32 → Wd → Option (Wd)} (hrec12 : ∀ (a0 : Nat) (x1 : Int32) (w : Wd), rec12 a0 x1 w = some w0 → (zL w 6 a0 = true) → V x 12 [some (.ref a0), some (.int x1), none, none, none, none, none] [] (Rp (xD x) w) 0 0) (hrec45 : ∀ (a0 : Nat) (x1 : Int32) (x2 : Int32) (x3 : Int32) (x4 : Int32) (w : Wd), rec45 a0 x1 x2 x3 x4 w = some w0 → (zL w 6 a0 = true) → V x 45 [some (.ref a0), some (.int x1), some (.int x2), some (.int x3), some (.int x4), none, none] [] (Rp (xD x) w) 0 0) : ∀ (n : Nat) (a0 : Nat) (x1 : Int32) (x2 : Int32) (x3 : Int32) (x4 : Int32) (x5 : Int32) (x6 : Int32) (w : Wd), (zL w 6 a0 = true) → fX6_breaks_l66 rec12 rec45 n a0 x1 x2 x3 x4 x5 x6 w = some w0 → V x 66 [some (.ref a0), some (.int x1), some (.int x2), some (.int x3), some (.int x4), some (.int x5), some (.int x6)] [] (Rp (xD x) w) 0 0 := by
  intro n
  induction n with
  | zero => intro a0 x1 x2 x3 x4 x5 x6 w hl0 h; cases h
  | succ n ih =>
    intro a0 x1 x2 x3 x4 x5 x6 w hl0 h
    exact vX6_breaks_b66 hx hq hrec12 hrec45 (fun a0 x1 x2 x3 x4 x5 x6 w h hl0 => ih a0 x1 x2 x3 x4 x5 x6 w hl0 h) hl0 h
theorem vX6_breaks_b45 {x : CT} (hx : CX x cX6_breaks RX6 rmX6_breaks none) {w0 : Wd} (hq : RV x rmX6_breaks w0) {rec12 : Nat → Int32 → Wd → Option (Wd)} {rec45 : Nat → Int32 → Int32 → Int32 → Int32 → Wd → Option (Wd)} {a0 : Nat} {x1 : Int32} {x2 : Int32} {x3 : Int32} {x4 : Int32} {w : Wd} (hrec12 : ∀ (a0 : Nat) (x1 : Int32) (w : Wd), rec12 a0 x1 w = some w0 → (zL w 6 a0 = true) → V x 12 [some (.ref a0), some (.int x1), none, none, none, none, none] [] (Rp (xD x) w) 0 0) (hrec45 : ∀ (a0 : Nat) (x1 : Int32) (x2 : Int32) (x3 : Int32) (x4 : Int32) (w : Wd), rec45 a0 x1 x2 x3 x4 w = some w0 → (zL w 6 a0 = true) → V x 45 [some (.ref a0), some (.int x1), some (.int x2), some (.int x3), some (.int x4), none, none] [] (Rp (xD x) w) 0 0) (hl0 : zL w 6 a0 = true) (h : fX6_breaks_b45 rec12 rec45 a0 x1 x2 x3 x4 w = some w0) : V x 45 [some (.ref a0), some (.int x1), some (.int x2), some (.int x3), some (.int x4), none, none] [] (Rp (xD x) w) 0 0 := by
  unfold fX6_breaks_b45 at h
  refine v_iload (pc' := 47) hx dX6_breaks_45 rfl rfl ?_
  refine v_iload_n (pc' := 48) hx dX6_breaks_47 rfl rfl ?_
  refine v_icmp_ge (tgt := 122) (pc' := 51) hx dX6_breaks_48 (by decide) rfl (fun hc_1 => ?_) (fun hc_1 => ?_)
  · rw [if_pos hc_1] at h
    refine V.sb (L' := [some (.ref a0), some (.int x1), none, none, none, none, none]) ⟨Or.inr rfl, Or.inr rfl, Or.inl rfl, Or.inl rfl, Or.inl rfl, Or.inl rfl, Or.inl rfl, trivial⟩ ?_
    exact vX6_breaks_b122 hx hq hrec12 hl0 h
  · rw [if_neg hc_1] at h
    refine v_aload_n (pc' := 52) hx dX6_breaks_51 rfl rfl ?_
    obtain ⟨g_2, hq_3⟩ : ∃ q, zA w 6 a0 27 = q := ⟨_, rfl⟩
    refine v_getAq (pc' := 55) hx hl0 fi_6_27.1 (by decide) hq_3 fk_X6_58 dX6_breaks_52 rfl ?_
    refine v_iload (pc' := 57) hx dX6_breaks_55 rfl rfl ?_
    refine v_iload_n (pc' := 58) hx dX6_breaks_57 rfl rfl ?_
    replace h := ckp_inv h; obtain ⟨hk_4, h⟩ := h
    refine v_iastq (pc' := 59) hx hl0 fi_6_27.1 fi_6_27.2.1 rfl hk_4 hq_3 dX6_breaks_58 rfl ?_
    replace h := lt_inv h; obtain ⟨w_5, ew_6, h⟩ := h
    rw [← ew_6]
    have hl_7 : zL w_5 6 a0 = true := by rw [ew_6]; exact hl0
    refine v_iconst (pc' := 60) (v := 0) hx dX6_breaks_59 (by decide) rfl ?_
    refine v_istore (pc' := 62) (L' := [some (.ref a0), some (.int x1), some (.int x2), some (.int x3), some (.int x4), some (.int 0), none]) hx dX6_breaks_60 rfl rfl (Nat.le_of_ble_eq_true rfl) ?_
    refine v_bipush (pc' := 64) (v := 15) hx dX6_breaks_62 (by decide) rfl ?_
    refine v_istore (pc' := 66) (L' := [some (.ref a0), some (.int x1), some (.int x2), some (.int x3), some (.int x4), some (.int 0), some (.int 15)]) hx dX6_breaks_64 rfl rfl (Nat.le_of_ble_eq_true rfl) ?_
    exact vX6_breaks_l66 hx hq hrec12 hrec45 1000 a0 x1 x2 x3 x4 0 15 w_5 hl_7 h
theorem vX6_breaks_l45 {x : CT} (hx : CX x cX6_breaks RX6 rmX6_breaks none) {w0 : Wd} (hq : RV x rmX6_breaks w0) {rec12 : Nat → Int32 → Wd → Option (Wd)} (hrec12 : ∀ (a0 : Nat) (x1 : Int32) (w : Wd), rec12 a0 x1 w = some w0 → (zL w 6 a0 = true) → V x 12 [some (.ref a0), some (.int x1), none, none, none, none, none] [] (Rp (xD x) w) 0 0) : ∀ (n : Nat) (a0 : Nat) (x1 : Int32) (x2 : Int32) (x3 : Int32) (x4 : Int32) (w : Wd), (zL w 6 a0 = true) → fX6_breaks_l45 rec12 n a0 x1 x2 x3 x4 w = some w0 → V x 45 [some (.ref a0), some (.int x1), some (.int x2), some (.int x3), some (.int x4), none, none] [] (Rp (xD x) w) 0 0 := by
  intro n
  induction n with
  | zero => intro a0 x1 x2 x3 x4 w hl0 h; cases h
  | succ n ih =>
    intro a0 x1 x2 x3 x4 w hl0 h
    exact vX6_breaks_b45 hx hq hrec12 (fun a0 x1 x2 x3 x4 w h hl0 => ih a0 x1 x2 x3 x4 w hl0 h) hl0 h
theorem vX6_breaks_b12 {x : CT} (hx : CX x cX6_breaks RX6 rmX6_breaks none) {w0 : Wd} (hq : RV x rmX6_breaks w0) {rec12 : Nat → Int32 → Wd → Option (Wd)} {a0 : Nat} {x1 : Int32} {w : Wd} (hrec12 : ∀ (a0 : Nat) (x1 : Int32) (w : Wd), rec12 a0 x1 w = some w0 → (zL w 6 a0 = true) → V x 12 [some (.ref a0), some (.int x1), none, none, none, none, none] [] (Rp (xD x) w) 0 0) (hl0 : zL w 6 a0 = true) (h : fX6_breaks_b12 rec12 a0 x1 w = some w0) : V x 12 [some (.ref a0), some (.int x1), none, none, none, none, none] [] (Rp (xD x) w) 0 0 := by
  unfold fX6_breaks_b12 at h
  refine v_iload_n (pc' := 13) hx dX6_breaks_12 rfl rfl ?_
  refine v_bipush (pc' := 15) (v := 16) hx dX6_breaks_13 (by decide) rfl ?_
  refine v_icmp_ge (tgt := 128) (pc' := 18) hx dX6_breaks_15 (by decide) rfl (fun hc_1 => ?_) (fun hc_1 => ?_)
  · rw [if_pos hc_1] at h
    exact v_vret hx hq (by decide) (by decide) dX6_breaks_128 (by cases h; rfl)
  · rw [if_neg hc_1] at h
    refine v_aload_n (pc' := 19) hx dX6_breaks_18 rfl rfl ?_
    refine v_iload_n (pc' := 20) hx dX6_breaks_19 rfl rfl ?_
    replace h := bd2_inv h; obtain ⟨y_3, w_4, hcl_2, h⟩ := h
    refine v_wf (fun hwf_5 => ?_)
    refine v_callVi (pc' := 23) (w' := w_4) (r := y_3) (ci := 6) (b := a0) (As := [.int x1]) (rest := []) hx hl0 (fun G sz hR => ctX6_measures (xl x) (xD x) w G sz hR a0 x1 hl0 hcl_2) rfl my_X6_measures ml_X6_187 ⟨by decide, by decide⟩ ⟨by decide, by decide⟩ rfl rfl (Nat.le_of_ble_eq_true rfl) dX6_breaks_20 rfl ?_
    have hm_7 := kX6_measures hcl_2 hwf_5
    have hl_8 : zL w_4 6 a0 = true := (hm_7.2 _ _ hl0).1
    refine v_istore_n (pc' := 24) (L' := [some (.ref a0), some (.int x1), some (.int y_3), none, none, none, none]) hx dX6_breaks_23 rfl rfl (Nat.le_of_ble_eq_true rfl) ?_
    refine v_iload_n (pc' := 25) hx dX6_breaks_24 rfl rfl ?_
    refine v_aload_n (pc' := 26) hx dX6_breaks_25 rfl rfl ?_
    refine v_getI (pc' := 29) hx hl_8 fi_6_28.1 fi_6_28.2.1 fk_X6_184 dX6_breaks_26 rfl ?_
    refine v_icmp_lt (tgt := 35) (pc' := 32) hx dX6_breaks_29 (by decide) rfl (fun hc_9 => ?_) (fun hc_9 => ?_)
    · rw [if_pos hc_9] at h
      refine v_aload_n (pc' := 36) hx dX6_breaks_35 rfl rfl ?_
      refine v_iload_n (pc' := 37) hx dX6_breaks_36 rfl rfl ?_
      refine v_putI (pc' := 40) hx hl_8 fi_6_28.1 fi_6_28.2.1 fi_6_28.2.2 fk_X6_184 dX6_breaks_37 rfl ?_
      replace h := lt_inv h; obtain ⟨w_10, ew_11, h⟩ := h
      rw [← ew_11]
      have hl_12 : zL w_10 6 a0 = true := by rw [ew_11]; exact hl_8
      have hwf_13 : WF w_10 := by rw [ew_11]; exact hm_7.1
      refine v_iload_n (pc' := 41) hx dX6_breaks_40 rfl rfl ?_
      refine v_istore_n (pc' := 42) (L' := [some (.ref a0), some (.int x1), some (.int y_3), some (.int x1), none, none, none]) hx dX6_breaks_41 rfl rfl (Nat.le_of_ble_eq_true rfl) ?_
      refine v_iconst (pc' := 43) (v := 0) hx dX6_breaks_42 (by decide) rfl ?_
      refine v_istore (pc' := 45) (L' := [some (.ref a0), some (.int x1), some (.int y_3), some (.int x1), some (.int 0), none, none]) hx dX6_breaks_43 rfl rfl (Nat.le_of_ble_eq_true rfl) ?_
      exact vX6_breaks_l45 hx hq hrec12 1000 a0 x1 y_3 x1 0 w_10 hl_12 h
    · rw [if_neg hc_9] at h
      refine v_goto (tgt := 122) hx dX6_breaks_32 (by decide) ?_
      refine V.sb (L' := [some (.ref a0), some (.int x1), none, none, none, none, none]) ⟨Or.inr rfl, Or.inr rfl, Or.inl rfl, Or.inl rfl, Or.inl rfl, Or.inl rfl, Or.inl rfl, trivial⟩ ?_
      exact vX6_breaks_b122 hx hq hrec12 hl_8 h
theorem vX6_breaks_l12 {x : CT} (hx : CX x cX6_breaks RX6 rmX6_breaks none) {w0 : Wd} (hq : RV x rmX6_breaks w0) : ∀ (n : Nat) (a0 : Nat) (x1 : Int32) (w : Wd), (zL w 6 a0 = true) → fX6_breaks_l12  n a0 x1 w = some w0 → V x 12 [some (.ref a0), some (.int x1), none, none, none, none, none] [] (Rp (xD x) w) 0 0 := by
  intro n
  induction n with
  | zero => intro a0 x1 w hl0 h; cases h
  | succ n ih =>
    intro a0 x1 w hl0 h
    exact vX6_breaks_b12 hx hq  (fun a0 x1 w h hl0 => ih a0 x1 w hl0 h) hl0 h
theorem vX6_breaks {x : CT} (hx : CX x cX6_breaks RX6 rmX6_breaks none) {w0 : Wd} {w : Wd} (hq : RV x rmX6_breaks w0) (a0 : Nat) (hl0 : zL w 6 a0 = true) (h : fX6_breaks a0 w = some w0) : V x 0 [some (.ref a0), none, none, none, none, none, none] [] (Rp (xD x) w) 0 0 := by
  unfold fX6_breaks at h
  refine v_aload_n (pc' := 1) hx dX6_breaks_0 rfl rfl ?_
  replace h := bd_inv h; obtain ⟨w_2, hcl_1, h⟩ := h
  refine v_wf (fun hwf_3 => ?_)
  refine v_callVv (pc' := 4) (w' := w_2) (ci := 6) (b := a0) (As := []) (rest := []) hx hl0 (fun G sz hR => ctX6_aheads (xl x) (xD x) w G sz hR a0 hl0 hcl_1) rfl my_X6_aheads ml_X6_181 ⟨by decide, by decide⟩ ⟨by decide, by decide⟩ rfl rfl (Nat.le_of_ble_eq_true rfl) dX6_breaks_1 rfl ?_
  have hm_5 := kX6_aheads hcl_1 hwf_3
  have hl_6 : zL w_2 6 a0 = true := (hm_5.2 _ _ hl0).1
  refine v_aload_n (pc' := 5) hx dX6_breaks_4 rfl rfl ?_
  refine v_bipush (pc' := 7) (v := 100) hx dX6_breaks_5 (by decide) rfl ?_
  refine v_putI (pc' := 10) hx hl_6 fi_6_28.1 fi_6_28.2.1 fi_6_28.2.2 fk_X6_184 dX6_breaks_7 rfl ?_
  replace h := lt_inv h; obtain ⟨w_7, ew_8, h⟩ := h
  rw [← ew_8]
  have hl_9 : zL w_7 6 a0 = true := by rw [ew_8]; exact hl_6
  have hwf_10 : WF w_7 := by rw [ew_8]; exact hm_5.1
  refine v_iconst (pc' := 11) (v := 0) hx dX6_breaks_10 (by decide) rfl ?_
  refine v_istore_n (pc' := 12) (L' := [some (.ref a0), some (.int 0), none, none, none, none, none]) hx dX6_breaks_11 rfl rfl (Nat.le_of_ble_eq_true rfl) ?_
  exact vX6_breaks_l12 hx hq 1000 a0 0 w_7 hl_9 h
theorem ctX6_breaks (l : Launch) (D : DD) (w : Wd) (G : GT) (sz : Nat) (hR : Rp D w G sz) (a0 : Nat) (hl0 : zL w 6 a0 = true) {w0 : Wd} (h : fX6_breaks a0 w = some w0) : MetV l yX6_breaks (WS yX6_breaks cX6_breaks 7 none) rmX6_breaks D [.ref a0] G sz w0 := by
  refine MetV_ofV (own := RX6) (P := Rp D w) hR (by decide) rfl (by simp [Value.category]) (Nat.le_of_ble_eq_true rfl) (fun x hx hq hD hl => ?_)
  subst hD
  exact vX6_breaks hx hq a0 hl0 h
theorem kX6_broken_b37 {r0 : Int32} {w0 : Wd} {xs0 : Int32} {w wb : Wd} (hm : mo wb w) (h : fX6_broken_b37 xs0 w = some (r0, w0)) : mo wb w0 := by
  unfold fX6_broken_b37 at h
  cases h; exact hm
theorem kX6_broken_b36 {r0 : Int32} {w0 : Wd} {w wb : Wd} (hm : mo wb w) (h : fX6_broken_b36 w = some (r0, w0)) : mo wb w0 := by
  unfold fX6_broken_b36 at h
  exact kX6_broken_b37 hm h
theorem kX6_broken {r0 : Int32} {w0 : Wd} {a0 : Nat} {x1 : Int32} {w : Wd} (h : fX6_broken a0 x1 w = some (r0, w0)) : mo w w0 := by
  have hm := mo_rf w
  unfold fX6_broken at h
  replace h := bd_inv h; obtain ⟨w_2, hcl_1, h⟩ := h
  have hm := hm.tr (kX6_breaks hcl_1)
  by_cases hc_7 : 100 ≤ (zI w_2 6 a0 28 0)
  · rw [if_pos hc_7] at h
    exact kX6_broken_b36 hm h
  · rw [if_neg hc_7] at h
    replace h := bd_inv h; obtain ⟨y_9, hcl_8, h⟩ := h
    by_cases hc_11 : y_9 = 0
    · rw [if_pos hc_11] at h
      exact kX6_broken_b36 hm h
    · rw [if_neg hc_11] at h
      replace h := ckp_inv h; obtain ⟨hk_14, h⟩ := h
      exact kX6_broken_b37 hm h
theorem vX6_broken_b37 {x : CT} (hx : CX x cX6_broken RX6 rmX6_broken (some .int)) {r0 : Int32} {w0 : Wd} (hq : RI x rmX6_broken r0 w0) {xs0 : Int32} {w : Wd} (h : fX6_broken_b37 xs0 w = some (r0, w0)) : V x 37 [none, none] [.int xs0] (Rp (xD x) w) 0 0 := by
  unfold fX6_broken_b37 at h
  exact v_iret hx hq (by decide) (by decide) dX6_broken_37 (by cases h; rfl)
theorem vX6_broken_b36 {x : CT} (hx : CX x cX6_broken RX6 rmX6_broken (some .int)) {r0 : Int32} {w0 : Wd} (hq : RI x rmX6_broken r0 w0) {w : Wd} (h : fX6_broken_b36 w = some (r0, w0)) : V x 36 [none, none] [] (Rp (xD x) w) 0 0 := by
  unfold fX6_broken_b36 at h
  refine v_iconst (pc' := 37) (v := (-1)) hx dX6_broken_36 (by decide) rfl ?_
  exact vX6_broken_b37 hx hq h
theorem vX6_broken {x : CT} (hx : CX x cX6_broken RX6 rmX6_broken (some .int)) {r0 : Int32} {w0 : Wd} {w : Wd} (hq : RI x rmX6_broken r0 w0) (a0 : Nat) (x1 : Int32) (hl0 : zL w 6 a0 = true) (h : fX6_broken a0 x1 w = some (r0, w0)) : V x 0 [some (.ref a0), some (.int x1)] [] (Rp (xD x) w) 0 0 := by
  unfold fX6_broken at h
  refine v_aload_n (pc' := 1) hx dX6_broken_0 rfl rfl ?_
  replace h := bd_inv h; obtain ⟨w_2, hcl_1, h⟩ := h
  refine v_wf (fun hwf_3 => ?_)
  refine v_callVv (pc' := 4) (w' := w_2) (ci := 6) (b := a0) (As := []) (rest := []) hx hl0 (fun G sz hR => ctX6_breaks (xl x) (xD x) w G sz hR a0 hl0 hcl_1) rfl my_X6_breaks ml_X6_190 ⟨by decide, by decide⟩ ⟨by decide, by decide⟩ rfl rfl (Nat.le_of_ble_eq_true rfl) dX6_broken_1 rfl ?_
  have hm_5 := kX6_breaks hcl_1 hwf_3
  have hl_6 : zL w_2 6 a0 = true := (hm_5.2 _ _ hl0).1
  refine v_aload_n (pc' := 5) hx dX6_broken_4 rfl rfl ?_
  refine v_getI (pc' := 8) hx hl_6 fi_6_28.1 fi_6_28.2.1 fk_X6_184 dX6_broken_5 rfl ?_
  refine v_bipush (pc' := 10) (v := 100) hx dX6_broken_8 (by decide) rfl ?_
  refine v_icmp_ge (tgt := 36) (pc' := 13) hx dX6_broken_10 (by decide) rfl (fun hc_7 => ?_) (fun hc_7 => ?_)
  · rw [if_pos hc_7] at h
    refine V.sb (L' := [none, none]) ⟨Or.inl rfl, Or.inl rfl, trivial⟩ ?_
    exact vX6_broken_b36 hx hq h
  · rw [if_neg hc_7] at h
    refine v_iload_n (pc' := 14) hx dX6_broken_13 rfl rfl ?_
    refine v_iconst (pc' := 15) (v := 0) hx dX6_broken_14 (by decide) rfl ?_
    refine v_aload_n (pc' := 16) hx dX6_broken_15 rfl rfl ?_
    refine v_getI (pc' := 19) hx hl_6 fi_6_28.1 fi_6_28.2.1 fk_X6_184 dX6_broken_16 rfl ?_
    refine v_iconst (pc' := 20) (v := 1) hx dX6_broken_19 (by decide) rfl ?_
    refine v_isub (pc' := 21) hx dX6_broken_20 rfl ?_
    replace h := bd_inv h; obtain ⟨y_9, hcl_8, h⟩ := h
    refine v_callSi (pc' := 24) (w' := w_2) (r := y_9) (As := [.int x1, .int 0, .int ((zI w_2 6 a0 28 0) - 1)]) (rest := []) hx (fun G sz hR => ctX6_lies (xl x) (xD x) w_2 G sz hR x1 0 ((zI w_2 6 a0 28 0) - 1)  hcl_8) my_X6_lies ml_X6_84 ⟨by decide, by decide⟩ ⟨by decide, by decide⟩ rfl rfl (Nat.le_of_ble_eq_true rfl) dX6_broken_21 rfl ?_
    refine v_if_eq (tgt := 36) (pc' := 27) hx dX6_broken_24 (by decide) rfl (fun hc_11 => ?_) (fun hc_11 => ?_)
    · rw [if_pos hc_11] at h
      refine V.sb (L' := [none, none]) ⟨Or.inl rfl, Or.inl rfl, trivial⟩ ?_
      exact vX6_broken_b36 hx hq h
    · rw [if_neg hc_11] at h
      refine v_aload_n (pc' := 28) hx dX6_broken_27 rfl rfl ?_
      obtain ⟨g_12, hq_13⟩ : ∃ q, zA w_2 6 a0 27 = q := ⟨_, rfl⟩
      refine v_getAq (pc' := 31) hx hl_6 fi_6_27.1 (by decide) hq_13 fk_X6_58 dX6_broken_28 rfl ?_
      refine v_iload_n (pc' := 32) hx dX6_broken_31 rfl rfl ?_
      replace h := ckp_inv h; obtain ⟨hk_14, h⟩ := h
      refine v_ialdq (pc' := 33) hx hl_6 fi_6_27.1 fi_6_27.2.1 rfl hk_14 hq_13 dX6_broken_32 rfl ?_
      refine v_goto (tgt := 37) hx dX6_broken_33 (by decide) ?_
      refine V.sb (L' := [none, none]) ⟨Or.inl rfl, Or.inl rfl, trivial⟩ ?_
      exact vX6_broken_b37 hx hq h
theorem ctX6_broken (l : Launch) (D : DD) (w : Wd) (G : GT) (sz : Nat) (hR : Rp D w G sz) (a0 : Nat) (x1 : Int32) (hl0 : zL w 6 a0 = true) {r0 : Int32} {w0 : Wd} (h : fX6_broken a0 x1 w = some (r0, w0)) : MetI l yX6_broken (WS yX6_broken cX6_broken 2 (some .int)) rmX6_broken D [.ref a0, .int x1] G sz r0 w0 := by
  refine MetI_ofV (own := RX6) (P := Rp D w) hR (by decide) rfl (by simp [Value.category]) (Nat.le_of_ble_eq_true rfl) (fun x hx hq hD hl => ?_)
  subst hD
  exact vX6_broken hx hq a0 x1 hl0 h
