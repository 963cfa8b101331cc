theorem kX0_learnRow_b39 {w0 : Wd} {rec2 : Nat → Nat → Int32 → Wd → Option (Wd)} {a0 : Nat} {a1 : Nat} {x2 : Int32} {w wb : Wd} (hkr2 : ∀ (a0 : Nat) (a1 : Nat) (x2 : Int32) (w : Wd), rec2 a0 a1 x2 w = some w0 → mo wb w → mo wb w0) (hm : mo wb w) (h : fX0_learnRow_b39 rec2 a0 a1 x2 w = some w0) : mo wb w0 := by
  unfold fX0_learnRow_b39 at h
  exact hkr2 a0 a1 (x2 + 1) w h hm
theorem kX0_learnRow_b2 {w0 : Wd} {rec2 : Nat → Nat → Int32 → Wd → Option (Wd)} {a0 : Nat} {a1 : Nat} {x2 : Int32} {w wb : Wd} (hkr2 : ∀ (a0 : Nat) (a1 : Nat) (x2 : Int32) (w : Wd), rec2 a0 a1 x2 w = some w0 → mo wb w → mo wb w0) (hm : mo wb w) (h : fX0_learnRow_b2 rec2 a0 a1 x2 w = some w0) : mo wb w0 := by
  unfold fX0_learnRow_b2 at h
  by_cases hc_1 : 16 ≤ x2
  · rw [if_pos hc_1] at h
    cases h; exact hm
  · rw [if_neg hc_1] at h
    replace h := bd_inv h; obtain ⟨y_3, hcl_2, h⟩ := h
    by_cases hc_5 : y_3 = 0
    · rw [if_pos hc_5] at h
      exact kX0_learnRow_b39 hkr2 hm h
    · rw [if_neg hc_5] at h
      by_cases hc_6 : x2 = (zI w 2 a1 5 0)
      · rw [if_pos hc_6] at h
        exact kX0_learnRow_b39 hkr2 hm h
      · rw [if_neg hc_6] at h
        replace h := ckp_inv h; obtain ⟨hk_9, h⟩ := h
        replace h := ckp_inv h; obtain ⟨hk_10, h⟩ := h
        replace h := lt_inv h; obtain ⟨w_11, ew_12, h⟩ := h
        have hm := mo_eI hm ew_12
        exact kX0_learnRow_b39 hkr2 hm h
theorem kX0_learnRow_l2 {w0 : Wd} {wb : Wd} : ∀ (n : Nat) (a0 : Nat) (a1 : Nat) (x2 : Int32) (w : Wd), mo wb w → fX0_learnRow_l2  n a0 a1 x2 w = some w0 → mo wb w0 := by
  intro n
  induction n with
  | zero => intro a0 a1 x2 w hm h; cases h
  | succ n ih =>
    intro a0 a1 x2 w hm h
    exact kX0_learnRow_b2  (fun a0 a1 x2 w h hm => ih a0 a1 x2 w hm h) hm h
theorem kX0_learnRow {w0 : Wd} {a0 : Nat} {a1 : Nat} {w : Wd} (h : fX0_learnRow a0 a1 w = some w0) : mo w w0 := by
  have hm := mo_rf w
  unfold fX0_learnRow at h
  exact kX0_learnRow_l2 1000 a0 a1 0 w hm h
theorem vX0_learnRow_b39 {x : CT} (hx : CX x cX0_learnRow RX0 rmX0_learnRow none) {w0 : Wd} (hq : RV x rmX0_learnRow w0) {rec2 : Nat → Nat → Int32 → Wd → Option (Wd)} {a0 : Nat} {a1 : Nat} {x2 : Int32} {w : Wd} (hrec2 : ∀ (a0 : Nat) (a1 : Nat) (x2 : Int32) (w : Wd), rec2 a0 a1 x2 w = some w0 → (zL w 0 a0 = true) → (zL w 2 a1 = true) → V x 2 [some (.ref a0), some (.ref a1), some (.int x2)] [] (Rp (xD x) w) 0 0) (hl0 : zL w 0 a0 = true) (hl1 : zL w 2 a1 = true) (h : fX0_learnRow_b39 rec2 a0 a1 x2 w = some w0) : V x 39 [some (.ref a0), some (.ref a1), some (.int x2)] [] (Rp (xD x) w) 0 0 := by
  unfold fX0_learnRow_b39 at h
  refine v_iinc (pc' := 42) (w0 := (x2 + 1)) (L' := [some (.ref a0), some (.ref a1), some (.int (x2 + 1))]) hx dX0_learnRow_39 rfl rfl rfl rfl ?_
  refine v_goto (tgt := 2) hx dX0_learnRow_42 (by decide) ?_
  exact hrec2 a0 a1 (x2 + 1) w h hl0 hl1
theorem vX0_learnRow_b2 {x : CT} (hx : CX x cX0_learnRow RX0 rmX0_learnRow none) {w0 : Wd} (hq : RV x rmX0_learnRow w0) {rec2 : Nat → Nat → Int32 → Wd → Option (Wd)} {a0 : Nat} {a1 : Nat} {x2 : Int32} {w : Wd} (hrec2 : ∀ (a0 : Nat) (a1 : Nat) (x2 : Int32) (w : Wd), rec2 a0 a1 x2 w = some w0 → (zL w 0 a0 = true) → (zL w 2 a1 = true) → V x 2 [some (.ref a0), some (.ref a1), some (.int x2)] [] (Rp (xD x) w) 0 0) (hl0 : zL w 0 a0 = true) (hl1 : zL w 2 a1 = true) (h : fX0_learnRow_b2 rec2 a0 a1 x2 w = some w0) : V x 2 [some (.ref a0), some (.ref a1), some (.int x2)] [] (Rp (xD x) w) 0 0 := by
  unfold fX0_learnRow_b2 at h
  refine v_iload_n (pc' := 3) hx dX0_learnRow_2 rfl rfl ?_
  refine v_bipush (pc' := 5) (v := 16) hx dX0_learnRow_3 (by decide) rfl ?_
  refine v_icmp_ge (tgt := 45) (pc' := 8) hx dX0_learnRow_5 (by decide) rfl (fun hc_1 => ?_) (fun hc_1 => ?_)
  · rw [if_pos hc_1] at h
    exact v_vret hx hq (by decide) (by decide) dX0_learnRow_45 (by cases h; rfl)
  · rw [if_neg hc_1] at h
    refine v_aload_n (pc' := 9) hx dX0_learnRow_8 rfl rfl ?_
    refine v_iload_n (pc' := 10) hx dX0_learnRow_9 rfl rfl ?_
    replace h := bd_inv h; obtain ⟨y_3, hcl_2, h⟩ := h
    refine v_callVi (pc' := 13) (w' := w) (r := y_3) (ci := 2) (b := a1) (As := [.int x2]) (rest := []) hx hl1 (fun G sz hR => ctX2_holds (xl x) (xD x) w G sz hR a1 x2 hl1 hcl_2) rfl my_X2_holds ml_X0_44 ⟨by decide, by decide⟩ ⟨by decide, by decide⟩ rfl rfl (Nat.le_of_ble_eq_true rfl) dX0_learnRow_10 rfl ?_
    refine v_if_eq (tgt := 39) (pc' := 16) hx dX0_learnRow_13 (by decide) rfl (fun hc_5 => ?_) (fun hc_5 => ?_)
    · rw [if_pos hc_5] at h
      exact vX0_learnRow_b39 hx hq hrec2 hl0 hl1 h
    · rw [if_neg hc_5] at h
      refine v_iload_n (pc' := 17) hx dX0_learnRow_16 rfl rfl ?_
      refine v_aload_n (pc' := 18) hx dX0_learnRow_17 rfl rfl ?_
      refine v_getI (pc' := 21) hx hl1 fi_2_5.1 fi_2_5.2.1 fk_X0_48 dX0_learnRow_18 rfl ?_
      refine v_icmp_eq (tgt := 39) (pc' := 24) hx dX0_learnRow_21 (by decide) rfl (fun hc_6 => ?_) (fun hc_6 => ?_)
      · rw [if_pos hc_6] at h
        exact vX0_learnRow_b39 hx hq hrec2 hl0 hl1 h
      · rw [if_neg hc_6] at h
        refine v_aload_n (pc' := 25) hx dX0_learnRow_24 rfl rfl ?_
        obtain ⟨g_7, hq_8⟩ : ∃ q, zA w 0 a0 0 = q := ⟨_, rfl⟩
        refine v_getAq (pc' := 28) hx hl0 fi_0_0.1 (by decide) hq_8 fk_X0_9 dX0_learnRow_25 rfl ?_
        refine v_iload_n (pc' := 29) hx dX0_learnRow_28 rfl rfl ?_
        refine v_dup2 (pc' := 30) hx dX0_learnRow_29 rfl rfl rfl ?_
        replace h := ckp_inv h; obtain ⟨hk_9, h⟩ := h
        refine v_ialdq (pc' := 31) hx hl0 fi_0_0.1 fi_0_0.2.1 rfl hk_9 hq_8 dX0_learnRow_30 rfl ?_
        refine v_iconst (pc' := 32) (v := 1) hx dX0_learnRow_31 (by decide) rfl ?_
        refine v_aload_n (pc' := 33) hx dX0_learnRow_32 rfl rfl ?_
        refine v_getI (pc' := 36) hx hl1 fi_2_5.1 fi_2_5.2.1 fk_X0_48 dX0_learnRow_33 rfl ?_
        refine v_ishl (pc' := 37) hx dX0_learnRow_36 rfl ?_
        refine v_ior (pc' := 38) hx dX0_learnRow_37 rfl ?_
        replace h := ckp_inv h; obtain ⟨hk_10, h⟩ := h
        refine v_iastq (pc' := 39) hx hl0 fi_0_0.1 fi_0_0.2.1 rfl hk_10 hq_8 dX0_learnRow_38 rfl ?_
        replace h := lt_inv h; obtain ⟨w_11, ew_12, h⟩ := h
        rw [← ew_12]
        have hl_13 : zL w_11 0 a0 = true := by rw [ew_12]; exact hl0
        have hl_14 : zL w_11 2 a1 = true := by rw [ew_12]; exact hl1
        exact vX0_learnRow_b39 hx hq hrec2 hl_13 hl_14 h
theorem vX0_learnRow_l2 {x : CT} (hx : CX x cX0_learnRow RX0 rmX0_learnRow none) {w0 : Wd} (hq : RV x rmX0_learnRow w0) : ∀ (n : Nat) (a0 : Nat) (a1 : Nat) (x2 : Int32) (w : Wd), (zL w 0 a0 = true) → (zL w 2 a1 = true) → fX0_learnRow_l2  n a0 a1 x2 w = some w0 → V x 2 [some (.ref a0), some (.ref a1), some (.int x2)] [] (Rp (xD x) w) 0 0 := by
  intro n
  induction n with
  | zero => intro a0 a1 x2 w hl0 hl1 h; cases h
  | succ n ih =>
    intro a0 a1 x2 w hl0 hl1 h
    exact vX0_learnRow_b2 hx hq  (fun a0 a1 x2 w h hl0 hl1 => ih a0 a1 x2 w hl0 hl1 h) hl0 hl1 h
theorem vX0_learnRow {x : CT} (hx : CX x cX0_learnRow RX0 rmX0_learnRow none) {w0 : Wd} {w : Wd} (hq : RV x rmX0_learnRow w0) (a0 : Nat) (a1 : Nat) (hl0 : zL w 0 a0 = true) (hl1 : zL w 2 a1 = true) (h : fX0_learnRow a0 a1 w = some w0) : V x 0 [some (.ref a0), some (.ref a1), none] [] (Rp (xD x) w) 0 0 := by
  unfold fX0_learnRow at h
  refine v_iconst (pc' := 1) (v := 0) hx dX0_learnRow_0 (by decide) rfl ?_
  refine v_istore_n (pc' := 2) (L' := [some (.ref a0), some (.ref a1), some (.int 0)]) hx dX0_learnRow_1 rfl rfl (Nat.le_of_ble_eq_true rfl) ?_
  exact vX0_learnRow_l2 hx hq 1000 a0 a1 0 w hl0 hl1 h
theorem ctX0_learnRow (l : Launch) (D : DD) (w : Wd) (G : GT) (sz : Nat) (hR : Rp D w G sz) (a0 : Nat) (a1 : Nat) (hl0 : zL w 0 a0 = true) (hl1 : zL w 2 a1 = true) {w0 : Wd} (h : fX0_learnRow a0 a1 w = some w0) : MetV l yX0_learnRow (WS yX0_learnRow cX0_learnRow 3 none) rmX0_learnRow D [.ref a0, .ref a1] G sz w0 := by
  refine MetV_ofV (own := RX0) (P := Rp D w) hR (by decide) rfl (by simp [Value.category]) (Nat.le_of_ble_eq_true rfl) (fun x hx hq hD hl => ?_)
  subst hD
  exact vX0_learnRow hx hq a0 a1 hl0 hl1 h
theorem kX0_stepBack_b56 {r0 : Int32} {w0 : Wd} {rec8 : Nat → Int32 → Int32 → Int32 → Int32 → Wd → Option (Int32 × Wd)} {a0 : Nat} {x2 : Int32} {x3 : Int32} {x4 : Int32} {x5 : Int32} {w wb : Wd} (hkr8 : ∀ (a0 : Nat) (x2 : Int32) (x3 : Int32) (x4 : Int32) (x5 : Int32) (w : Wd), rec8 a0 x2 x3 x4 x5 w = some (r0, w0) → mo wb w → mo wb w0) (hm : mo wb w) (h : fX0_stepBack_b56 rec8 a0 x2 x3 x4 x5 w = some (r0, w0)) : mo wb w0 := by
  unfold fX0_stepBack_b56 at h
  exact hkr8 a0 x2 x3 x4 (x5 + 1) w h hm
theorem kX0_stepBack_b8 {r0 : Int32} {w0 : Wd} {rec8 : Nat → Int32 → Int32 → Int32 → Int32 → Wd → Option (Int32 × Wd)} {a0 : Nat} {x2 : Int32} {x3 : Int32} {x4 : Int32} {x5 : Int32} {w wb : Wd} (hkr8 : ∀ (a0 : Nat) (x2 : Int32) (x3 : Int32) (x4 : Int32) (x5 : Int32) (w : Wd), rec8 a0 x2 x3 x4 x5 w = some (r0, w0) → mo wb w → mo wb w0) (hm : mo wb w) (h : fX0_stepBack_b8 rec8 a0 x2 x3 x4 x5 w = some (r0, w0)) : mo wb w0 := by
  unfold fX0_stepBack_b8 at h
  by_cases hc_1 : 16 ≤ x5
  · rw [if_pos hc_1] at h
    cases h; exact hm
  · rw [if_neg hc_1] at h
    replace h := ckp_inv h; obtain ⟨hk_4, h⟩ := h
    by_cases hc_5 : (zI w 0 a0 1 (x5 : Int32).toNatClampNeg) = 16
    · rw [if_pos hc_5] at h
      replace h := ckp_inv h; obtain ⟨hk_8, h⟩ := h
      by_cases hc_9 : ((zI w 0 a0 0 (x5 : Int32).toNatClampNeg) &&& x2) = 0
      · rw [if_pos hc_9] at h
        exact kX0_stepBack_b56 hkr8 hm h
      · rw [if_neg hc_9] at h
        replace h := ckp_inv h; obtain ⟨hk_12, h⟩ := h
        replace h := lt_inv h; obtain ⟨w_13, ew_14, h⟩ := h
        have hm := mo_eI hm ew_14
        exact kX0_stepBack_b56 hkr8 hm h
    · rw [if_neg hc_5] at h
      exact kX0_stepBack_b56 hkr8 hm h
theorem kX0_stepBack_l8 {r0 : Int32} {w0 : Wd} {wb : Wd} : ∀ (n : Nat) (a0 : Nat) (x2 : Int32) (x3 : Int32) (x4 : Int32) (x5 : Int32) (w : Wd), mo wb w → fX0_stepBack_l8  n a0 x2 x3 x4 x5 w = some (r0, w0) → mo wb w0 := by
  intro n
  induction n with
  | zero => intro a0 x2 x3 x4 x5 w hm h; cases h
  | succ n ih =>
    intro a0 x2 x3 x4 x5 w hm h
    exact kX0_stepBack_b8  (fun a0 x2 x3 x4 x5 w h hm => ih a0 x2 x3 x4 x5 w hm h) hm h
theorem kX0_stepBack {r0 : Int32} {w0 : Wd} {a0 : Nat} {x1 : Int32} {x2 : Int32} {x3 : Int32} {w : Wd} (h : fX0_stepBack a0 x1 x2 x3 w = some (r0, w0)) : mo w w0 := by
  have hm := mo_rf w
  unfold fX0_stepBack at h
  exact kX0_stepBack_l8 1000 a0 x2 x3 0 (x1 + 1) w hm h
theorem vX0_stepBack_b56 {x : CT} (hx : CX x cX0_stepBack RX0 rmX0_stepBack (some .int)) {r0 : Int32} {w0 : Wd} (hq : RI x rmX0_stepBack r0 w0) {rec8 : Nat → Int32 → Int32 → Int32 → Int32 → Wd → Option (Int32 × Wd)} {a0 : Nat} {x2 : Int32} {x3 : Int32} {x4 : Int32} {x5 : Int32} {w : Wd} (hrec8 : ∀ (a0 : Nat) (x2 : Int32) (x3 : Int32) (x4 : Int32) (x5 : Int32) (w : Wd), rec8 a0 x2 x3 x4 x5 w = some (r0, w0) → (zL w 0 a0 = true) → V x 8 [some (.ref a0), none, some (.int x2), some (.int x3), some (.int x4), some (.int x5)] [] (Rp (xD x) w) 0 0) (hl0 : zL w 0 a0 = true) (h : fX0_stepBack_b56 rec8 a0 x2 x3 x4 x5 w = some (r0, w0)) : V x 56 [some (.ref a0), none, some (.int x2), some (.int x3), some (.int x4), some (.int x5)] [] (Rp (xD x) w) 0 0 := by
  unfold fX0_stepBack_b56 at h
  refine v_iinc (pc' := 59) (w0 := (x5 + 1)) (L' := [some (.ref a0), none, some (.int x2), some (.int x3), some (.int x4), some (.int (x5 + 1))]) hx dX0_stepBack_56 rfl rfl rfl rfl ?_
  refine v_goto (tgt := 8) hx dX0_stepBack_59 (by decide) ?_
  exact hrec8 a0 x2 x3 x4 (x5 + 1) w h hl0
theorem vX0_stepBack_b8 {x : CT} (hx : CX x cX0_stepBack RX0 rmX0_stepBack (some .int)) {r0 : Int32} {w0 : Wd} (hq : RI x rmX0_stepBack r0 w0) {rec8 : Nat → Int32 → Int32 → Int32 → Int32 → Wd → Option (Int32 × Wd)} {a0 : Nat} {x2 : Int32} {x3 : Int32} {x4 : Int32} {x5 : Int32} {w : Wd} (hrec8 : ∀ (a0 : Nat) (x2 : Int32) (x3 : Int32) (x4 : Int32) (x5 : Int32) (w : Wd), rec8 a0 x2 x3 x4 x5 w = some (r0, w0) → (zL w 0 a0 = true) → V x 8 [some (.ref a0), none, some (.int x2), some (.int x3), some (.int x4), some (.int x5)] [] (Rp (xD x) w) 0 0) (hl0 : zL w 0 a0 = true) (h : fX0_stepBack_b8 rec8 a0 x2 x3 x4 x5 w = some (r0, w0)) : V x 8 [some (.ref a0), none, some (.int x2), some (.int x3), some (.int x4), some (.int x5)] [] (Rp (xD x) w) 0 0 := by
  unfold fX0_stepBack_b8 at h
  refine v_iload (pc' := 10) hx dX0_stepBack_8 rfl rfl ?_
  refine v_bipush (pc' := 12) (v := 16) hx dX0_stepBack_10 (by decide) rfl ?_
  refine v_icmp_ge (tgt := 62) (pc' := 15) hx dX0_stepBack_12 (by decide) rfl (fun hc_1 => ?_) (fun hc_1 => ?_)
  · rw [if_pos hc_1] at h
    refine v_iload (pc' := 64) hx dX0_stepBack_62 rfl rfl ?_
    exact v_iret hx hq (by decide) (by decide) dX0_stepBack_64 (by cases h; rfl)
  · rw [if_neg hc_1] at h
    refine v_aload_n (pc' := 16) hx dX0_stepBack_15 rfl rfl ?_
    obtain ⟨g_2, hq_3⟩ : ∃ q, zA w 0 a0 1 = q := ⟨_, rfl⟩
    refine v_getAq (pc' := 19) hx hl0 fi_0_1.1 (by decide) hq_3 fk_X0_15 dX0_stepBack_16 rfl ?_
    refine v_iload (pc' := 21) hx dX0_stepBack_19 rfl rfl ?_
    replace h := ckp_inv h; obtain ⟨hk_4, h⟩ := h
    refine v_ialdq (pc' := 22) hx hl0 fi_0_1.1 fi_0_1.2.1 rfl hk_4 hq_3 dX0_stepBack_21 rfl ?_
    refine v_bipush (pc' := 24) (v := 16) hx dX0_stepBack_22 (by decide) rfl ?_
    refine v_icmp_ne (tgt := 56) (pc' := 27) hx dX0_stepBack_24 (by decide) rfl (fun hc_5 => ?_) (fun hc_5 => ?_)
    · rw [if_neg hc_5] at h
      exact vX0_stepBack_b56 hx hq hrec8 hl0 h
    · rw [if_pos hc_5] at h
      refine v_aload_n (pc' := 28) hx dX0_stepBack_27 rfl rfl ?_
      obtain ⟨g_6, hq_7⟩ : ∃ q, zA w 0 a0 0 = q := ⟨_, rfl⟩
      refine v_getAq (pc' := 31) hx hl0 fi_0_0.1 (by decide) hq_7 fk_X0_9 dX0_stepBack_28 rfl ?_
      refine v_iload (pc' := 33) hx dX0_stepBack_31 rfl rfl ?_
      replace h := ckp_inv h; obtain ⟨hk_8, h⟩ := h
      refine v_ialdq (pc' := 34) hx hl0 fi_0_0.1 fi_0_0.2.1 rfl hk_8 hq_7 dX0_stepBack_33 rfl ?_
      refine v_iload_n (pc' := 35) hx dX0_stepBack_34 rfl rfl ?_
      refine v_iand (pc' := 36) hx dX0_stepBack_35 rfl ?_
      refine v_if_eq (tgt := 56) (pc' := 39) hx dX0_stepBack_36 (by decide) rfl (fun hc_9 => ?_) (fun hc_9 => ?_)
      · rw [if_pos hc_9] at h
        exact vX0_stepBack_b56 hx hq hrec8 hl0 h
      · rw [if_neg hc_9] at h
        refine v_aload_n (pc' := 40) hx dX0_stepBack_39 rfl rfl ?_
        obtain ⟨g_10, hq_11⟩ : ∃ q, zA w 0 a0 1 = q := ⟨_, rfl⟩
        refine v_getAq (pc' := 43) hx hl0 fi_0_1.1 (by decide) hq_11 fk_X0_15 dX0_stepBack_40 rfl ?_
        refine v_iload (pc' := 45) hx dX0_stepBack_43 rfl rfl ?_
        refine v_iload_n (pc' := 46) hx dX0_stepBack_45 rfl rfl ?_
        replace h := ckp_inv h; obtain ⟨hk_12, h⟩ := h
        refine v_iastq (pc' := 47) hx hl0 fi_0_1.1 fi_0_1.2.1 rfl hk_12 hq_11 dX0_stepBack_46 rfl ?_
        replace h := lt_inv h; obtain ⟨w_13, ew_14, h⟩ := h
        rw [← ew_14]
        have hl_15 : zL w_13 0 a0 = true := by rw [ew_14]; exact hl0
        refine v_iload (pc' := 49) hx dX0_stepBack_47 rfl rfl ?_
        refine v_iconst (pc' := 50) (v := 1) hx dX0_stepBack_49 (by decide) rfl ?_
        refine v_iload (pc' := 52) hx dX0_stepBack_50 rfl rfl ?_
        refine v_ishl (pc' := 53) hx dX0_stepBack_52 rfl ?_
        refine v_ior (pc' := 54) hx dX0_stepBack_53 rfl ?_
        refine v_istore (pc' := 56) (L' := [some (.ref a0), none, some (.int x2), some (.int x3), some (.int (x4 ||| (1 <<< (x5 &&& 31)))), some (.int x5)]) hx dX0_stepBack_54 rfl rfl (Nat.le_of_ble_eq_true rfl) ?_
        exact vX0_stepBack_b56 hx hq hrec8 hl_15 h
theorem vX0_stepBack_l8 {x : CT} (hx : CX x cX0_stepBack RX0 rmX0_stepBack (some .int)) {r0 : Int32} {w0 : Wd} (hq : RI x rmX0_stepBack r0 w0) : ∀ (n : Nat) (a0 : Nat) (x2 : Int32) (x3 : Int32) (x4 : Int32) (x5 : Int32) (w : Wd), (zL w 0 a0 = true) → fX0_stepBack_l8  n a0 x2 x3 x4 x5 w = some (r0, w0) → V x 8 [some (.ref a0), none, some (.int x2), some (.int x3), some (.int x4), some (.int x5)] [] (Rp (xD x) w) 0 0 := by
  intro n
  induction n with
  | zero => intro a0 x2 x3 x4 x5 w hl0 h; cases h
  | succ n ih =>
    intro a0 x2 x3 x4 x5 w hl0 h
    exact vX0_stepBack_b8 hx hq  (fun a0 x2 x3 x4 x5 w h hl0 => ih a0 x2 x3 x4 x5 w hl0 h) hl0 h
theorem vX0_stepBack {x : CT} (hx : CX x cX0_stepBack RX0 rmX0_stepBack (some .int)) {r0 : Int32} {w0 : Wd} {w : Wd} (hq : RI x rmX0_stepBack r0 w0) (a0 : Nat) (x1 : Int32) (x2 : Int32) (x3 : Int32) (hl0 : zL w 0 a0 = true) (h : fX0_stepBack a0 x1 x2 x3 w = some (r0, w0)) : V x 0 [some (.ref a0), some (.int x1), some (.int x2), some (.int x3), none, none] [] (Rp (xD x) w) 0 0 := by
  unfold fX0_stepBack at h
  refine v_iconst (pc' := 1) (v := 0) hx dX0_stepBack_0 (by decide) rfl ?_
  refine v_istore (pc' := 3) (L' := [some (.ref a0), some (.int x1), some (.int x2), some (.int x3), some (.int 0), none]) hx dX0_stepBack_1 rfl rfl (Nat.le_of_ble_eq_true rfl) ?_
  refine v_iload_n (pc' := 4) hx dX0_stepBack_3 rfl rfl ?_
  refine v_iconst (pc' := 5) (v := 1) hx dX0_stepBack_4 (by decide) rfl ?_
  refine v_iadd (pc' := 6) hx dX0_stepBack_5 rfl ?_
  refine v_istore (pc' := 8) (L' := [some (.ref a0), some (.int x1), some (.int x2), some (.int x3), some (.int 0), some (.int (x1 + 1))]) hx dX0_stepBack_6 rfl rfl (Nat.le_of_ble_eq_true rfl) ?_
  refine V.sb (L' := [some (.ref a0), none, some (.int x2), some (.int x3), some (.int 0), some (.int (x1 + 1))]) ⟨Or.inr rfl, Or.inl rfl, Or.inr rfl, Or.inr rfl, Or.inr rfl, Or.inr rfl, trivial⟩ ?_
  exact vX0_stepBack_l8 hx hq 1000 a0 x2 x3 0 (x1 + 1) w hl0 h
theorem ctX0_stepBack (l : Launch) (D : DD) (w : Wd) (G : GT) (sz : Nat) (hR : Rp D w G sz) (a0 : Nat) (x1 : Int32) (x2 : Int32) (x3 : Int32) (hl0 : zL w 0 a0 = true) {r0 : Int32} {w0 : Wd} (h : fX0_stepBack a0 x1 x2 x3 w = some (r0, w0)) : MetI l yX0_stepBack (WS yX0_stepBack cX0_stepBack 6 (some .int)) rmX0_stepBack D [.ref a0, .int x1, .int x2, .int x3] G sz r0 w0 := by
  refine MetI_ofV (own := RX0) (P := Rp D w) hR (by decide) rfl (by simp [Value.category]) (Nat.le_of_ble_eq_true rfl) (fun x hx hq hD hl => ?_)
  subst hD
  exact vX0_stepBack hx hq a0 x1 x2 x3 hl0 h
theorem kX0_measureWaysBack_b59 {w0 : Wd} {w wb : Wd} (hm : mo wb w) (h : fX0_measureWaysBack_b59 w = some w0) : mo wb w0 := by
  unfold fX0_measureWaysBack_b59 at h
  cases h; exact hm
theorem kX0_measureWaysBack_b35 {w0 : Wd} {rec35 : Nat → Int32 → Int32 → Int32 → Wd → Option (Wd)} {a0 : Nat} {x1 : Int32} {x2 : Int32} {x3 : Int32} {w wb : Wd} (hkr35 : ∀ (a0 : Nat) (x1 : Int32) (x2 : Int32) (x3 : Int32) (w : Wd), rec35 a0 x1 x2 x3 w = some w0 → mo wb w → mo wb w0) (hm : mo wb w) (h : fX0_measureWaysBack_b35 rec35 a0 x1 x2 x3 w = some w0) : mo wb w0 := by
  unfold fX0_measureWaysBack_b35 at h
  by_cases hc_1 : 16 ≤ x3
  · rw [if_pos hc_1] at h
    exact kX0_measureWaysBack_b59 hm h
  · rw [if_neg hc_1] at h
    by_cases hc_2 : x2 = 0
    · rw [if_pos hc_2] at h
      exact kX0_measureWaysBack_b59 hm h
    · rw [if_neg hc_2] at h
      replace h := bd2_inv h; obtain ⟨y_4, w_5, hcl_3, h⟩ := h
      have hm := hm.tr (kX0_stepBack hcl_3)
      exact hkr35 a0 x1 y_4 (x3 + 1) w_5 h hm
theorem kX0_measureWaysBack_l35 {w0 : Wd} {wb : Wd} : ∀ (n : Nat) (a0 : Nat) (x1 : Int32) (x2 : Int32) (x3 : Int32) (w : Wd), mo wb w → fX0_measureWaysBack_l35  n a0 x1 x2 x3 w = some w0 → mo wb w0 := by
  intro n
  induction n with
  | zero => intro a0 x1 x2 x3 w hm h; cases h
  | succ n ih =>
    intro a0 x1 x2 x3 w hm h
    exact kX0_measureWaysBack_b35  (fun a0 x1 x2 x3 w h hm => ih a0 x1 x2 x3 w hm h) hm h
theorem kX0_measureWaysBack_b2 {w0 : Wd} {rec2 : Nat → Int32 → Int32 → Wd → Option (Wd)} {a0 : Nat} {x1 : Int32} {x2 : Int32} {w wb : Wd} (hkr2 : ∀ (a0 : Nat) (x1 : Int32) (x2 : Int32) (w : Wd), rec2 a0 x1 x2 w = some w0 → mo wb w → mo wb w0) (hm : mo wb w) (h : fX0_measureWaysBack_b2 rec2 a0 x1 x2 w = some w0) : mo wb w0 := by
  unfold fX0_measureWaysBack_b2 at h
  by_cases hc_1 : 16 ≤ x2
  · rw [if_pos hc_1] at h
    replace h := ckp_inv h; obtain ⟨hk_4, h⟩ := h
    replace h := lt_inv h; obtain ⟨w_5, ew_6, h⟩ := h
    have hm := mo_eI hm ew_6
    exact kX0_measureWaysBack_l35 1000 a0 x1 (1 <<< (x1 &&& 31)) 1 w_5 hm h
  · rw [if_neg hc_1] at h
    replace h := ckp_inv h; obtain ⟨hk_10, h⟩ := h
    replace h := lt_inv h; obtain ⟨w_11, ew_12, h⟩ := h
    have hm := mo_eI hm ew_12
    exact hkr2 a0 x1 (x2 + 1) w_11 h hm
theorem kX0_measureWaysBack_l2 {w0 : Wd} {wb : Wd} : ∀ (n : Nat) (a0 : Nat) (x1 : Int32) (x2 : Int32) (w : Wd), mo wb w → fX0_measureWaysBack_l2  n a0 x1 x2 w = some w0 → mo wb w0 := by
  intro n
  induction n with
  | zero => intro a0 x1 x2 w hm h; cases h
  | succ n ih =>
    intro a0 x1 x2 w hm h
    exact kX0_measureWaysBack_b2  (fun a0 x1 x2 w h hm => ih a0 x1 x2 w hm h) hm h
theorem kX0_measureWaysBack {w0 : Wd} {a0 : Nat} {x1 : Int32} {w : Wd} (h : fX0_measureWaysBack a0 x1 w = some w0) : mo w w0 := by
  have hm := mo_rf w
  unfold fX0_measureWaysBack at h
  exact kX0_measureWaysBack_l2 1000 a0 x1 0 w hm h
theorem vX0_measureWaysBack_b59 {x : CT} (hx : CX x cX0_measureWaysBack RX0 rmX0_measureWaysBack none) {w0 : Wd} (hq : RV x rmX0_measureWaysBack w0) {w : Wd} (h : fX0_measureWaysBack_b59 w = some w0) : V x 59 [none, none, none, none] [] (Rp (xD x) w) 0 0 := by
  unfold fX0_measureWaysBack_b59 at h
  exact v_vret hx hq (by decide) (by decide) dX0_measureWaysBack_59 (by cases h; rfl)
theorem vX0_measureWaysBack_b35 {x : CT} (hx : CX x cX0_measureWaysBack RX0 rmX0_measureWaysBack none) {w0 : Wd} (hq : RV x rmX0_measureWaysBack w0) {rec35 : Nat → Int32 → Int32 → Int32 → Wd → Option (Wd)} {a0 : Nat} {x1 : Int32} {x2 : Int32} {x3 : Int32} {w : Wd} (hrec35 : ∀ (a0 : Nat) (x1 : Int32) (x2 : Int32) (x3 : Int32) (w : Wd), rec35 a0 x1 x2 x3 w = some w0 → (zL w 0 a0 = true) → V x 35 [some (.ref a0), some (.int x1), some (.int x2), some (.int x3)] [] (Rp (xD x) w) 0 0) (hl0 : zL w 0 a0 = true) (h : fX0_measureWaysBack_b35 rec35 a0 x1 x2 x3 w = some w0) : V x 35 [some (.ref a0), some (.int x1), some (.int x2), some (.int x3)] [] (Rp (xD x) w) 0 0 := by
  unfold fX0_measureWaysBack_b35 at h
  refine v_iload_n (pc' := 36) hx dX0_measureWaysBack_35 rfl rfl ?_
  refine v_bipush (pc' := 38) (v := 16) hx dX0_measureWaysBack_36 (by decide) rfl ?_
  refine v_icmp_ge (tgt := 59) (pc' := 41) hx dX0_measureWaysBack_38 (by decide) rfl (fun hc_1 => ?_) (fun hc_1 => ?_)
  · rw [if_pos hc_1] at h
    refine V.sb (L' := [none, none, none, none]) ⟨Or.inl rfl, Or.inl rfl, Or.inl rfl, Or.inl rfl, trivial⟩ ?_
    exact vX0_measureWaysBack_b59 hx hq h
  · rw [if_neg hc_1] at h
    refine v_iload_n (pc' := 42) hx dX0_measureWaysBack_41 rfl rfl ?_
    refine v_if_eq (tgt := 59) (pc' := 45) hx dX0_measureWaysBack_42 (by decide) rfl (fun hc_2 => ?_) (fun hc_2 => ?_)
    · rw [if_pos hc_2] at h
      refine V.sb (L' := [none, none, none, none]) ⟨Or.inl rfl, Or.inl rfl, Or.inl rfl, Or.inl rfl, trivial⟩ ?_
      exact vX0_measureWaysBack_b59 hx hq h
    · rw [if_neg hc_2] at h
      refine v_aload_n (pc' := 46) hx dX0_measureWaysBack_45 rfl rfl ?_
      refine v_iload_n (pc' := 47) hx dX0_measureWaysBack_46 rfl rfl ?_
      refine v_iload_n (pc' := 48) hx dX0_measureWaysBack_47 rfl rfl ?_
      refine v_iload_n (pc' := 49) hx dX0_measureWaysBack_48 rfl rfl ?_
      replace h := bd2_inv h; obtain ⟨y_4, w_5, hcl_3, h⟩ := h
      refine v_wf (fun hwf_6 => ?_)
      refine v_callVi (pc' := 52) (w' := w_5) (r := y_4) (ci := 0) (b := a0) (As := [.int x1, .int x2, .int x3]) (rest := []) hx hl0 (fun G sz hR => ctX0_stepBack (xl x) (xD x) w G sz hR a0 x1 x2 x3 hl0 hcl_3) rfl my_X0_stepBack ml_X0_63 ⟨by decide, by decide⟩ ⟨by decide, by decide⟩ rfl rfl (Nat.le_of_ble_eq_true rfl) dX0_measureWaysBack_49 rfl ?_
      have hm_8 := kX0_stepBack hcl_3 hwf_6
      have hl_9 : zL w_5 0 a0 = true := (hm_8.2 _ _ hl0).1
      refine v_istore_n (pc' := 53) (L' := [some (.ref a0), some (.int x1), some (.int y_4), some (.int x3)]) hx dX0_measureWaysBack_52 rfl rfl (Nat.le_of_ble_eq_true rfl) ?_
      refine v_iinc (pc' := 56) (w0 := (x3 + 1)) (L' := [some (.ref a0), some (.int x1), some (.int y_4), some (.int (x3 + 1))]) hx dX0_measureWaysBack_53 rfl rfl rfl rfl ?_
      refine v_goto (tgt := 35) hx dX0_measureWaysBack_56 (by decide) ?_
      exact hrec35 a0 x1 y_4 (x3 + 1) w_5 h hl_9
theorem vX0_measureWaysBack_l35 {x : CT} (hx : CX x cX0_measureWaysBack RX0 rmX0_measureWaysBack none) {w0 : Wd} (hq : RV x rmX0_measureWaysBack w0) : ∀ (n : Nat) (a0 : Nat) (x1 : Int32) (x2 : Int32) (x3 : Int32) (w : Wd), (zL w 0 a0 = true) → fX0_measureWaysBack_l35  n a0 x1 x2 x3 w = some w0 → V x 35 [some (.ref a0), some (.int x1), some (.int x2), some (.int x3)] [] (Rp (xD x) w) 0 0 := by
  intro n
  induction n with
  | zero => intro a0 x1 x2 x3 w hl0 h; cases h
  | succ n ih =>
    intro a0 x1 x2 x3 w hl0 h
    exact vX0_measureWaysBack_b35 hx hq  (fun a0 x1 x2 x3 w h hl0 => ih a0 x1 x2 x3 w hl0 h) hl0 h
theorem vX0_measureWaysBack_b2 {x : CT} (hx : CX x cX0_measureWaysBack RX0 rmX0_measureWaysBack none) {w0 : Wd} (hq : RV x rmX0_measureWaysBack w0) {rec2 : Nat → Int32 → Int32 → Wd → Option (Wd)} {a0 : Nat} {x1 : Int32} {x2 : Int32} {w : Wd} (hrec2 : ∀ (a0 : Nat) (x1 : Int32) (x2 : Int32) (w : Wd), rec2 a0 x1 x2 w = some w0 → (zL w 0 a0 = true) → V x 2 [some (.ref a0), some (.int x1), some (.int x2), none] [] (Rp (xD x) w) 0 0) (hl0 : zL w 0 a0 = true) (h : fX0_measureWaysBack_b2 rec2 a0 x1 x2 w = some w0) : V x 2 [some (.ref a0), some (.int x1), some (.int x2), none] [] (Rp (xD x) w) 0 0 := by
  unfold fX0_measureWaysBack_b2 at h
  refine v_iload_n (pc' := 3) hx dX0_measureWaysBack_2 rfl rfl ?_
  refine v_bipush (pc' := 5) (v := 16) hx dX0_measureWaysBack_3 (by decide) rfl ?_
  refine v_icmp_ge (tgt := 22) (pc' := 8) hx dX0_measureWaysBack_5 (by decide) rfl (fun hc_1 => ?_) (fun hc_1 => ?_)
  · rw [if_pos hc_1] at h
    refine v_aload_n (pc' := 23) hx dX0_measureWaysBack_22 rfl rfl ?_
    obtain ⟨g_2, hq_3⟩ : ∃ q, zA w 0 a0 1 = q := ⟨_, rfl⟩
    refine v_getAq (pc' := 26) hx hl0 fi_0_1.1 (by decide) hq_3 fk_X0_15 dX0_measureWaysBack_23 rfl ?_
    refine v_iload_n (pc' := 27) hx dX0_measureWaysBack_26 rfl rfl ?_
    refine v_iconst (pc' := 28) (v := 0) hx dX0_measureWaysBack_27 (by decide) rfl ?_
    replace h := ckp_inv h; obtain ⟨hk_4, h⟩ := h
    refine v_iastq (pc' := 29) hx hl0 fi_0_1.1 fi_0_1.2.1 rfl hk_4 hq_3 dX0_measureWaysBack_28 rfl ?_
    replace h := lt_inv h; obtain ⟨w_5, ew_6, h⟩ := h
    rw [← ew_6]
    have hl_7 : zL w_5 0 a0 = true := by rw [ew_6]; exact hl0
    refine v_iconst (pc' := 30) (v := 1) hx dX0_measureWaysBack_29 (by decide) rfl ?_
    refine v_iload_n (pc' := 31) hx dX0_measureWaysBack_30 rfl rfl ?_
    refine v_ishl (pc' := 32) hx dX0_measureWaysBack_31 rfl ?_
    refine v_istore_n (pc' := 33) (L' := [some (.ref a0), some (.int x1), some (.int (1 <<< (x1 &&& 31))), none]) hx dX0_measureWaysBack_32 rfl rfl (Nat.le_of_ble_eq_true rfl) ?_
    refine v_iconst (pc' := 34) (v := 1) hx dX0_measureWaysBack_33 (by decide) rfl ?_
    refine v_istore_n (pc' := 35) (L' := [some (.ref a0), some (.int x1), some (.int (1 <<< (x1 &&& 31))), some (.int 1)]) hx dX0_measureWaysBack_34 rfl rfl (Nat.le_of_ble_eq_true rfl) ?_
    exact vX0_measureWaysBack_l35 hx hq 1000 a0 x1 (1 <<< (x1 &&& 31)) 1 w_5 hl_7 h
  · rw [if_neg hc_1] at h
    refine v_aload_n (pc' := 9) hx dX0_measureWaysBack_8 rfl rfl ?_
    obtain ⟨g_8, hq_9⟩ : ∃ q, zA w 0 a0 1 = q := ⟨_, rfl⟩
    refine v_getAq (pc' := 12) hx hl0 fi_0_1.1 (by decide) hq_9 fk_X0_15 dX0_measureWaysBack_9 rfl ?_
    refine v_iload_n (pc' := 13) hx dX0_measureWaysBack_12 rfl rfl ?_
    refine v_bipush (pc' := 15) (v := 16) hx dX0_measureWaysBack_13 (by decide) rfl ?_
    replace h := ckp_inv h; obtain ⟨hk_10, h⟩ := h
    refine v_iastq (pc' := 16) hx hl0 fi_0_1.1 fi_0_1.2.1 rfl hk_10 hq_9 dX0_measureWaysBack_15 rfl ?_
    replace h := lt_inv h; obtain ⟨w_11, ew_12, h⟩ := h
    rw [← ew_12]
    have hl_13 : zL w_11 0 a0 = true := by rw [ew_12]; exact hl0
    refine v_iinc (pc' := 19) (w0 := (x2 + 1)) (L' := [some (.ref a0), some (.int x1), some (.int (x2 + 1)), none]) hx dX0_measureWaysBack_16 rfl rfl rfl rfl ?_
    refine v_goto (tgt := 2) hx dX0_measureWaysBack_19 (by decide) ?_
    exact hrec2 a0 x1 (x2 + 1) w_11 h hl_13
theorem vX0_measureWaysBack_l2 {x : CT} (hx : CX x cX0_measureWaysBack RX0 rmX0_measureWaysBack none) {w0 : Wd} (hq : RV x rmX0_measureWaysBack w0) : ∀ (n : Nat) (a0 : Nat) (x1 : Int32) (x2 : Int32) (w : Wd), (zL w 0 a0 = true) → fX0_measureWaysBack_l2  n a0 x1 x2 w = some w0 → V x 2 [some (.ref a0), some (.int x1), some (.int x2), none] [] (Rp (xD x) w) 0 0 := by
  intro n
  induction n with
  | zero => intro a0 x1 x2 w hl0 h; cases h
  | succ n ih =>
    intro a0 x1 x2 w hl0 h
    exact vX0_measureWaysBack_b2 hx hq  (fun a0 x1 x2 w h hl0 => ih a0 x1 x2 w hl0 h) hl0 h
theorem vX0_measureWaysBack {x : CT} (hx : CX x cX0_measureWaysBack RX0 rmX0_measureWaysBack none) {w0 : Wd} {w : Wd} (hq : RV x rmX0_measureWaysBack w0) (a0 : Nat) (x1 : Int32) (hl0 : zL w 0 a0 = true) (h : fX0_measureWaysBack a0 x1 w = some w0) : V x 0 [some (.ref a0), some (.int x1), none, none] [] (Rp (xD x) w) 0 0 := by
  unfold fX0_measureWaysBack at h
  refine v_iconst (pc' := 1) (v := 0) hx dX0_measureWaysBack_0 (by decide) rfl ?_
  refine v_istore_n (pc' := 2) (L' := [some (.ref a0), some (.int x1), some (.int 0), none]) hx dX0_measureWaysBack_1 rfl rfl (Nat.le_of_ble_eq_true rfl) ?_
  exact vX0_measureWaysBack_l2 hx hq 1000 a0 x1 0 w hl0 h
theorem ctX0_measureWaysBack (l : Launch) (D : DD) (w : Wd) (G : GT) (sz : Nat) (hR : Rp D w G sz) (a0 : Nat) (x1 : Int32) (hl0 : zL w 0 a0 = true) {w0 : Wd} (h : fX0_measureWaysBack a0 x1 w = some w0) : MetV l yX0_measureWaysBack (WS yX0_measureWaysBack cX0_measureWaysBack 4 none) rmX0_measureWaysBack D [.ref a0, .int x1] G sz w0 := by
  refine MetV_ofV (own := RX0) (P := Rp D w) hR (by decide) rfl (by simp [Value.category]) (Nat.le_of_ble_eq_true rfl) (fun x hx hq hD hl => ?_)
  subst hD
  exact vX0_measureWaysBack hx hq a0 x1 hl0 h
theorem vX0_sizeOfRingFrom_b37 {x : CT} (hx : CX x cX0_sizeOfRingFrom RX0 rmX0_sizeOfRingFrom (some .int)) {r0 : Int32} {w : Wd} (hq : RI x rmX0_sizeOfRingFrom r0 w) {rec7 : Nat → Int32 → Int32 → Int32 → Option (Int32)} {a0 : Nat} {x1 : Int32} {x2 : Int32} {x3 : Int32} (hrec7 : ∀ (a0 : Nat) (x1 : Int32) (x2 : Int32) (x3 : Int32), rec7 a0 x1 x2 x3 = some r0 → (zL w 0 a0 = true) → V x 7 [some (.ref a0), some (.int x1), some (.int x2), some (.int x3)] [] (Rp (xD x) w) 0 0) (hl0 : zL w 0 a0 = true) (h : fX0_sizeOfRingFrom_b37 w rec7 a0 x1 x2 x3 = some r0) : V x 37 [some (.ref a0), some (.int x1), some (.int x2), some (.int x3)] [] (Rp (xD x) w) 0 0 := by
  unfold fX0_sizeOfRingFrom_b37 at h
  refine v_iinc (pc' := 40) (w0 := (x3 + 1)) (L' := [some (.ref a0), some (.int x1), some (.int x2), some (.int (x3 + 1))]) hx dX0_sizeOfRingFrom_37 rfl rfl rfl rfl ?_
  refine v_goto (tgt := 7) hx dX0_sizeOfRingFrom_40 (by decide) ?_
  exact hrec7 a0 x1 x2 (x3 + 1) h hl0
theorem vX0_sizeOfRingFrom_b7 {x : CT} (hx : CX x cX0_sizeOfRingFrom RX0 rmX0_sizeOfRingFrom (some .int)) {r0 : Int32} {w : Wd} (hq : RI x rmX0_sizeOfRingFrom r0 w) {rec7 : Nat → Int32 → Int32 → Int32 → Option (Int32)} {a0 : Nat} {x1 : Int32} {x2 : Int32} {x3 : Int32} (hrec7 : ∀ (a0 : Nat) (x1 : Int32) (x2 : Int32) (x3 : Int32), rec7 a0 x1 x2 x3 = some r0 → (zL w 0 a0 = true) → V x 7 [some (.ref a0), some (.int x1), some (.int x2), some (.int x3)] [] (Rp (xD x) w) 0 0) (hl0 : zL w 0 a0 = true) (h : fX0_sizeOfRingFrom_b7 w rec7 a0 x1 x2 x3 = some r0) : V x 7 [some (.ref a0), some (.int x1), some (.int x2), some (.int x3)] [] (Rp (xD x) w) 0 0 := by
  unfold fX0_sizeOfRingFrom_b7 at h
  refine v_iload_n (pc' := 8) hx dX0_sizeOfRingFrom_7 rfl rfl ?_
  refine v_bipush (pc' := 10) (v := 16) hx dX0_sizeOfRingFrom_8 (by decide) rfl ?_
  refine v_icmp_ge (tgt := 43) (pc' := 13) hx dX0_sizeOfRingFrom_10 (by decide) rfl (fun hc_1 => ?_) (fun hc_1 => ?_)
  · rw [if_pos hc_1] at h
    refine v_iload_n (pc' := 44) hx dX0_sizeOfRingFrom_43 rfl rfl ?_
    refine v_iconst (pc' := 45) (v := 1) hx dX0_sizeOfRingFrom_44 (by decide) rfl ?_
    refine v_iadd (pc' := 46) hx dX0_sizeOfRingFrom_45 rfl ?_
    exact v_iret hx hq (by decide) (by decide) dX0_sizeOfRingFrom_46 (by cases h; rfl)
  · rw [if_neg hc_1] at h
    refine v_aload_n (pc' := 14) hx dX0_sizeOfRingFrom_13 rfl rfl ?_
    obtain ⟨g_2, hq_3⟩ : ∃ q, zA w 0 a0 0 = q := ⟨_, rfl⟩
    refine v_getAq (pc' := 17) hx hl0 fi_0_0.1 (by decide) hq_3 fk_X0_9 dX0_sizeOfRingFrom_14 rfl ?_
    refine v_iload_n (pc' := 18) hx dX0_sizeOfRingFrom_17 rfl rfl ?_
    replace h := ckp_inv h; obtain ⟨hk_4, h⟩ := h
    refine v_ialdq (pc' := 19) hx hl0 fi_0_0.1 fi_0_0.2.1 rfl hk_4 hq_3 dX0_sizeOfRingFrom_18 rfl ?_
    refine v_iload_n (pc' := 20) hx dX0_sizeOfRingFrom_19 rfl rfl ?_
    replace h := bd_inv h; obtain ⟨y_6, hcl_5, h⟩ := h
    refine v_callSi (pc' := 23) (w' := w) (r := y_6) (As := [.int (zI w 0 a0 0 (x1 : Int32).toNatClampNeg), .int x3]) (rest := []) hx (fun G sz hR => ctX5_hasBit (xl x) (xD x) w G sz hR (zI w 0 a0 0 (x1 : Int32).toNatClampNeg) x3  hcl_5) my_X5_hasBit ml_X0_67 ⟨by decide, by decide⟩ ⟨by decide, by decide⟩ rfl rfl (Nat.le_of_ble_eq_true rfl) dX0_sizeOfRingFrom_20 rfl ?_
    refine v_if_eq (tgt := 37) (pc' := 26) hx dX0_sizeOfRingFrom_23 (by decide) rfl (fun hc_8 => ?_) (fun hc_8 => ?_)
    · rw [if_pos hc_8] at h
      exact vX0_sizeOfRingFrom_b37 hx hq hrec7 hl0 h
    · rw [if_neg hc_8] at h
      refine v_iload_n (pc' := 27) hx dX0_sizeOfRingFrom_26 rfl rfl ?_
      refine v_aload_n (pc' := 28) hx dX0_sizeOfRingFrom_27 rfl rfl ?_
      obtain ⟨g_9, hq_10⟩ : ∃ q, zA w 0 a0 1 = q := ⟨_, rfl⟩
      refine v_getAq (pc' := 31) hx hl0 fi_0_1.1 (by decide) hq_10 fk_X0_15 dX0_sizeOfRingFrom_28 rfl ?_
      refine v_iload_n (pc' := 32) hx dX0_sizeOfRingFrom_31 rfl rfl ?_
      replace h := ckp_inv h; obtain ⟨hk_11, h⟩ := h
      refine v_ialdq (pc' := 33) hx hl0 fi_0_1.1 fi_0_1.2.1 rfl hk_11 hq_10 dX0_sizeOfRingFrom_32 rfl ?_
      replace h := bd_inv h; obtain ⟨y_13, hcl_12, h⟩ := h
      refine v_callSi (pc' := 36) (w' := w) (r := y_13) (As := [.int x2, .int (zI w 0 a0 1 (x3 : Int32).toNatClampNeg)]) (rest := []) hx (fun G sz hR => ctJ9_min_7cf53 (xl x) (xD x) w G sz hR x2 (zI w 0 a0 1 (x3 : Int32).toNatClampNeg)  hcl_12) my_J9_min_7cf53 ml_X0_71 ⟨by decide, by decide⟩ ⟨by decide, by decide⟩ rfl rfl (Nat.le_of_ble_eq_true rfl) dX0_sizeOfRingFrom_33 rfl ?_
      refine v_istore_n (pc' := 37) (L' := [some (.ref a0), some (.int x1), some (.int y_13), some (.int x3)]) hx dX0_sizeOfRingFrom_36 rfl rfl (Nat.le_of_ble_eq_true rfl) ?_
      exact vX0_sizeOfRingFrom_b37 hx hq hrec7 hl0 h
theorem vX0_sizeOfRingFrom_l7 {x : CT} (hx : CX x cX0_sizeOfRingFrom RX0 rmX0_sizeOfRingFrom (some .int)) {r0 : Int32} {w : Wd} (hq : RI x rmX0_sizeOfRingFrom r0 w) : ∀ (n : Nat) (a0 : Nat) (x1 : Int32) (x2 : Int32) (x3 : Int32), (zL w 0 a0 = true) → fX0_sizeOfRingFrom_l7 w n a0 x1 x2 x3 = some r0 → V x 7 [some (.ref a0), some (.int x1), some (.int x2), some (.int x3)] [] (Rp (xD x) w) 0 0 := by
  intro n
  induction n with
  | zero => intro a0 x1 x2 x3 hl0 h; cases h
  | succ n ih =>
    intro a0 x1 x2 x3 hl0 h
    exact vX0_sizeOfRingFrom_b7 hx hq  (fun a0 x1 x2 x3 h hl0 => ih a0 x1 x2 x3 hl0 h) hl0 h
theorem vX0_sizeOfRingFrom {x : CT} (hx : CX x cX0_sizeOfRingFrom RX0 rmX0_sizeOfRingFrom (some .int)) {r0 : Int32} {w : Wd} (hq : RI x rmX0_sizeOfRingFrom r0 w) (a0 : Nat) (x1 : Int32) (hl0 : zL w 0 a0 = true) (h : fX0_sizeOfRingFrom a0 x1 w = some r0) : V x 0 [some (.ref a0), some (.int x1), none, none] [] (Rp (xD x) w) 0 0 := by
  unfold fX0_sizeOfRingFrom at h
  refine v_bipush (pc' := 2) (v := 16) hx dX0_sizeOfRingFrom_0 (by decide) rfl ?_
  refine v_istore_n (pc' := 3) (L' := [some (.ref a0), some (.int x1), some (.int 16), none]) hx dX0_sizeOfRingFrom_2 rfl rfl (Nat.le_of_ble_eq_true rfl) ?_
  refine v_iload_n (pc' := 4) hx dX0_sizeOfRingFrom_3 rfl rfl ?_
  refine v_iconst (pc' := 5) (v := 1) hx dX0_sizeOfRingFrom_4 (by decide) rfl ?_
  refine v_iadd (pc' := 6) hx dX0_sizeOfRingFrom_5 rfl ?_
  refine v_istore_n (pc' := 7) (L' := [some (.ref a0), some (.int x1), some (.int 16), some (.int (x1 + 1))]) hx dX0_sizeOfRingFrom_6 rfl rfl (Nat.le_of_ble_eq_true rfl) ?_
  exact vX0_sizeOfRingFrom_l7 hx hq 1000 a0 x1 16 (x1 + 1) hl0 h
theorem ctX0_sizeOfRingFrom (l : Launch) (D : DD) (w : Wd) (G : GT) (sz : Nat) (hR : Rp D w G sz) (a0 : Nat) (x1 : Int32) (hl0 : zL w 0 a0 = true) {r0 : Int32} (h : fX0_sizeOfRingFrom a0 x1 w = some r0) : MetI l yX0_sizeOfRingFrom (WS yX0_sizeOfRingFrom cX0_sizeOfRingFrom 4 (some .int)) rmX0_sizeOfRingFrom D [.ref a0, .int x1] G sz r0 w := by
  refine MetI_ofV (own := RX0) (P := Rp D w) hR (by decide) rfl (by simp [Value.category]) (Nat.le_of_ble_eq_true rfl) (fun x hx hq hD hl => ?_)
  subst hD
  exact vX0_sizeOfRingFrom hx hq a0 x1 hl0 h
theorem vX0_lowestBehind_b33 {x : CT} (hx : CX x cX0_lowestBehind RX0 rmX0_lowestBehind (some .int)) {r0 : Int32} {w : Wd} (hq : RI x rmX0_lowestBehind r0 w) {rec2 : Nat → Int32 → Int32 → Int32 → Option (Int32)} {a0 : Nat} {x1 : Int32} {x2 : Int32} {x3 : Int32} (hrec2 : ∀ (a0 : Nat) (x1 : Int32) (x2 : Int32) (x3 : Int32), rec2 a0 x1 x2 x3 = some r0 → (zL w 0 a0 = true) → V x 2 [some (.ref a0), some (.int x1), some (.int x2), some (.int x3)] [] (Rp (xD x) w) 0 0) (hl0 : zL w 0 a0 = true) (h : fX0_lowestBehind_b33 w rec2 a0 x1 x2 x3 = some r0) : V x 33 [some (.ref a0), some (.int x1), some (.int x2), some (.int x3)] [] (Rp (xD x) w) 0 0 := by
  unfold fX0_lowestBehind_b33 at h
  refine v_iinc (pc' := 36) (w0 := (x3 + 1)) (L' := [some (.ref a0), some (.int x1), some (.int x2), some (.int (x3 + 1))]) hx dX0_lowestBehind_33 rfl rfl rfl rfl ?_
  refine v_goto (tgt := 2) hx dX0_lowestBehind_36 (by decide) ?_
  exact hrec2 a0 x1 x2 (x3 + 1) h hl0
theorem vX0_lowestBehind_b2 {x : CT} (hx : CX x cX0_lowestBehind RX0 rmX0_lowestBehind (some .int)) {r0 : Int32} {w : Wd} (hq : RI x rmX0_lowestBehind r0 w) {rec2 : Nat → Int32 → Int32 → Int32 → Option (Int32)} {a0 : Nat} {x1 : Int32} {x2 : Int32} {x3 : Int32} (hrec2 : ∀ (a0 : Nat) (x1 : Int32) (x2 : Int32) (x3 : Int32), rec2 a0 x1 x2 x3 = some r0 → (zL w 0 a0 = true) → V x 2 [some (.ref a0), some (.int x1), some (.int x2), some (.int x3)] [] (Rp (xD x) w) 0 0) (hl0 : zL w 0 a0 = true) (h : fX0_lowestBehind_b2 w rec2 a0 x1 x2 x3 = some r0) : V x 2 [some (.ref a0), some (.int x1), some (.int x2), some (.int x3)] [] (Rp (xD x) w) 0 0 := by
  unfold fX0_lowestBehind_b2 at h
  refine v_iload_n (pc' := 3) hx dX0_lowestBehind_2 rfl rfl ?_
  refine v_bipush (pc' := 5) (v := 16) hx dX0_lowestBehind_3 (by decide) rfl ?_
  refine v_icmp_ge (tgt := 39) (pc' := 8) hx dX0_lowestBehind_5 (by decide) rfl (fun hc_1 => ?_) (fun hc_1 => ?_)
  · rw [if_pos hc_1] at h
    refine v_iload_n (pc' := 40) hx dX0_lowestBehind_39 rfl rfl ?_
    exact v_iret hx hq (by decide) (by decide) dX0_lowestBehind_40 (by cases h; rfl)
  · rw [if_neg hc_1] at h
    refine v_aload_n (pc' := 9) hx dX0_lowestBehind_8 rfl rfl ?_
    obtain ⟨g_2, hq_3⟩ : ∃ q, zA w 0 a0 0 = q := ⟨_, rfl⟩
    refine v_getAq (pc' := 12) hx hl0 fi_0_0.1 (by decide) hq_3 fk_X0_9 dX0_lowestBehind_9 rfl ?_
    refine v_iload_n (pc' := 13) hx dX0_lowestBehind_12 rfl rfl ?_
    replace h := ckp_inv h; obtain ⟨hk_4, h⟩ := h
    refine v_ialdq (pc' := 14) hx hl0 fi_0_0.1 fi_0_0.2.1 rfl hk_4 hq_3 dX0_lowestBehind_13 rfl ?_
    refine v_iload_n (pc' := 15) hx dX0_lowestBehind_14 rfl rfl ?_
    replace h := bd_inv h; obtain ⟨y_6, hcl_5, h⟩ := h
    refine v_callSi (pc' := 18) (w' := w) (r := y_6) (As := [.int (zI w 0 a0 0 (x1 : Int32).toNatClampNeg), .int x3]) (rest := []) hx (fun G sz hR => ctX5_hasBit (xl x) (xD x) w G sz hR (zI w 0 a0 0 (x1 : Int32).toNatClampNeg) x3  hcl_5) my_X5_hasBit ml_X0_67 ⟨by decide, by decide⟩ ⟨by decide, by decide⟩ rfl rfl (Nat.le_of_ble_eq_true rfl) dX0_lowestBehind_15 rfl ?_
    refine v_if_eq (tgt := 33) (pc' := 21) hx dX0_lowestBehind_18 (by decide) rfl (fun hc_8 => ?_) (fun hc_8 => ?_)
    · rw [if_pos hc_8] at h
      exact vX0_lowestBehind_b33 hx hq hrec2 hl0 h
    · rw [if_neg hc_8] at h
      refine v_aload_n (pc' := 22) hx dX0_lowestBehind_21 rfl rfl ?_
      obtain ⟨g_9, hq_10⟩ : ∃ q, zA w 0 a0 1 = q := ⟨_, rfl⟩
      refine v_getAq (pc' := 25) hx hl0 fi_0_1.1 (by decide) hq_10 fk_X0_15 dX0_lowestBehind_22 rfl ?_
      refine v_iload_n (pc' := 26) hx dX0_lowestBehind_25 rfl rfl ?_
      replace h := ckp_inv h; obtain ⟨hk_11, h⟩ := h
      refine v_ialdq (pc' := 27) hx hl0 fi_0_1.1 fi_0_1.2.1 rfl hk_11 hq_10 dX0_lowestBehind_26 rfl ?_
      refine v_iload_n (pc' := 28) hx dX0_lowestBehind_27 rfl rfl ?_
      refine v_icmp_ne (tgt := 33) (pc' := 31) hx dX0_lowestBehind_28 (by decide) rfl (fun hc_12 => ?_) (fun hc_12 => ?_)
      · rw [if_neg hc_12] at h
        exact vX0_lowestBehind_b33 hx hq hrec2 hl0 h
      · rw [if_pos hc_12] at h
        refine v_iload_n (pc' := 32) hx dX0_lowestBehind_31 rfl rfl ?_
        exact v_iret hx hq (by decide) (by decide) dX0_lowestBehind_32 (by cases h; rfl)
theorem vX0_lowestBehind_l2 {x : CT} (hx : CX x cX0_lowestBehind RX0 rmX0_lowestBehind (some .int)) {r0 : Int32} {w : Wd} (hq : RI x rmX0_lowestBehind r0 w) : ∀ (n : Nat) (a0 : Nat) (x1 : Int32) (x2 : Int32) (x3 : Int32), (zL w 0 a0 = true) → fX0_lowestBehind_l2 w n a0 x1 x2 x3 = some r0 → V x 2 [some (.ref a0), some (.int x1), some (.int x2), some (.int x3)] [] (Rp (xD x) w) 0 0 := by
  intro n
  induction n with
  | zero => intro a0 x1 x2 x3 hl0 h; cases h
  | succ n ih =>
    intro a0 x1 x2 x3 hl0 h
    exact vX0_lowestBehind_b2 hx hq  (fun a0 x1 x2 x3 h hl0 => ih a0 x1 x2 x3 hl0 h) hl0 h
theorem vX0_lowestBehind {x : CT} (hx : CX x cX0_lowestBehind RX0 rmX0_lowestBehind (some .int)) {r0 : Int32} {w : Wd} (hq : RI x rmX0_lowestBehind r0 w) (a0 : Nat) (x1 : Int32) (x2 : Int32) (hl0 : zL w 0 a0 = true) (h : fX0_lowestBehind a0 x1 x2 w = some r0) : V x 0 [some (.ref a0), some (.int x1), some (.int x2), none] [] (Rp (xD x) w) 0 0 := by
  unfold fX0_lowestBehind at h
  refine v_iconst (pc' := 1) (v := 0) hx dX0_lowestBehind_0 (by decide) rfl ?_
  refine v_istore_n (pc' := 2) (L' := [some (.ref a0), some (.int x1), some (.int x2), some (.int 0)]) hx dX0_lowestBehind_1 rfl rfl (Nat.le_of_ble_eq_true rfl) ?_
  exact vX0_lowestBehind_l2 hx hq 1000 a0 x1 x2 0 hl0 h
theorem ctX0_lowestBehind (l : Launch) (D : DD) (w : Wd) (G : GT) (sz : Nat) (hR : Rp D w G sz) (a0 : Nat) (x1 : Int32) (x2 : Int32) (hl0 : zL w 0 a0 = true) {r0 : Int32} (h : fX0_lowestBehind a0 x1 x2 w = some r0) : MetI l yX0_lowestBehind (WS yX0_lowestBehind cX0_lowestBehind 4 (some .int)) rmX0_lowestBehind D [.ref a0, .int x1, .int x2] G sz r0 w := by
  refine MetI_ofV (own := RX0) (P := Rp D w) hR (by decide) rfl (by simp [Value.category]) (Nat.le_of_ble_eq_true rfl) (fun x hx hq hD hl => ?_)
  subst hD
  exact vX0_lowestBehind hx hq a0 x1 x2 hl0 h
theorem kX0_keepRing_b12 {w0 : Wd} {rec12 : Nat → Int32 → Int32 → Int32 → Wd → Option (Wd)} {a0 : Nat} {x2 : Int32} {x3 : Int32} {x4 : Int32} {w wb : Wd} (hkr12 : ∀ (a0 : Nat) (x2 : Int32) (x3 : Int32) (x4 : Int32) (w : Wd), rec12 a0 x2 x3 x4 w = some w0 → mo wb w → mo wb w0) (hm : mo wb w) (h : fX0_keepRing_b12 rec12 a0 x2 x3 x4 w = some w0) : mo wb w0 := by
  unfold fX0_keepRing_b12 at h
  by_cases hc_1 : x2 ≤ x4
  · rw [if_pos hc_1] at h
    replace h := lt_inv h; obtain ⟨w_2, ew_3, h⟩ := h
    have hm := mo_eI hm ew_3
    cases h; exact hm
  · rw [if_neg hc_1] at h
    replace h := bd_inv h; obtain ⟨y_6, hcl_5, h⟩ := h
    replace h := ckp_inv h; obtain ⟨hk_10, h⟩ := h
    replace h := lt_inv h; obtain ⟨w_11, ew_12, h⟩ := h
    have hm := mo_eI hm ew_12
    exact hkr12 a0 x2 y_6 (x4 + 1) w_11 h hm
theorem kX0_keepRing_l12 {w0 : Wd} {wb : Wd} : ∀ (n : Nat) (a0 : Nat) (x2 : Int32) (x3 : Int32) (x4 : Int32) (w : Wd), mo wb w → fX0_keepRing_l12  n a0 x2 x3 x4 w = some w0 → mo wb w0 := by
  intro n
  induction n with
  | zero => intro a0 x2 x3 x4 w hm h; cases h
  | succ n ih =>
    intro a0 x2 x3 x4 w hm h
    exact kX0_keepRing_b12  (fun a0 x2 x3 x4 w h hm => ih a0 x2 x3 x4 w hm h) hm h
theorem kX0_keepRing {w0 : Wd} {a0 : Nat} {x1 : Int32} {x2 : Int32} {w : Wd} (h : fX0_keepRing a0 x1 x2 w = some w0) : mo w w0 := by
  have hm := mo_rf w
  unfold fX0_keepRing at h
  replace h := ckp_inv h; obtain ⟨hk_3, h⟩ := h
  replace h := lt_inv h; obtain ⟨w_4, ew_5, h⟩ := h
  have hm := mo_eI hm ew_5
  exact kX0_keepRing_l12 1000 a0 x2 x1 1 w_4 hm h
theorem vX0_keepRing_b12 {x : CT} (hx : CX x cX0_keepRing RX0 rmX0_keepRing none) {w0 : Wd} (hq : RV x rmX0_keepRing w0) {rec12 : Nat → Int32 → Int32 → Int32 → Wd → Option (Wd)} {a0 : Nat} {x2 : Int32} {x3 : Int32} {x4 : Int32} {w : Wd} (hrec12 : ∀ (a0 : Nat) (x2 : Int32) (x3 : Int32) (x4 : Int32) (w : Wd), rec12 a0 x2 x3 x4 w = some w0 → (zL w 0 a0 = true) → V x 12 [some (.ref a0), none, some (.int x2), some (.int x3), some (.int x4)] [] (Rp (xD x) w) 0 0) (hl0 : zL w 0 a0 = true) (h : fX0_keepRing_b12 rec12 a0 x2 x3 x4 w = some w0) : V x 12 [some (.ref a0), none, some (.int x2), some (.int x3), some (.int x4)] [] (Rp (xD x) w) 0 0 := by
  unfold fX0_keepRing_b12 at h
  refine v_iload (pc' := 14) hx dX0_keepRing_12 rfl rfl ?_
  refine v_iload_n (pc' := 15) hx dX0_keepRing_14 rfl rfl ?_
  refine v_icmp_ge (tgt := 42) (pc' := 18) hx dX0_keepRing_15 (by decide) rfl (fun hc_1 => ?_) (fun hc_1 => ?_)
  · rw [if_pos hc_1] at h
    refine v_aload_n (pc' := 43) hx dX0_keepRing_42 rfl rfl ?_
    refine v_iload_n (pc' := 44) hx dX0_keepRing_43 rfl rfl ?_
    refine v_putI (pc' := 47) hx hl0 fi_0_3.1 fi_0_3.2.1 fi_0_3.2.2 fk_X0_40 dX0_keepRing_44 rfl ?_
    replace h := lt_inv h; obtain ⟨w_2, ew_3, h⟩ := h
    rw [← ew_3]
    have hl_4 : zL w_2 0 a0 = true := by rw [ew_3]; exact hl0
    exact v_vret hx hq (by decide) (by decide) dX0_keepRing_47 (by cases h; rfl)
  · rw [if_neg hc_1] at h
    refine v_aload_n (pc' := 19) hx dX0_keepRing_18 rfl rfl ?_
    refine v_iload_n (pc' := 20) hx dX0_keepRing_19 rfl rfl ?_
    refine v_iload_n (pc' := 21) hx dX0_keepRing_20 rfl rfl ?_
    refine v_iload (pc' := 23) hx dX0_keepRing_21 rfl rfl ?_
    refine v_isub (pc' := 24) hx dX0_keepRing_23 rfl ?_
    replace h := bd_inv h; obtain ⟨y_6, hcl_5, h⟩ := h
    refine v_callVi (pc' := 27) (w' := w) (r := y_6) (ci := 0) (b := a0) (As := [.int x3, .int (x2 - x4)]) (rest := []) hx hl0 (fun G sz hR => ctX0_lowestBehind (xl x) (xD x) w G sz hR a0 x3 (x2 - x4) hl0 hcl_5) rfl my_X0_lowestBehind ml_X0_77 ⟨by decide, by decide⟩ ⟨by decide, by decide⟩ rfl rfl (Nat.le_of_ble_eq_true rfl) dX0_keepRing_24 rfl ?_
    refine v_istore_n (pc' := 28) (L' := [some (.ref a0), none, some (.int x2), some (.int y_6), some (.int x4)]) hx dX0_keepRing_27 rfl rfl (Nat.le_of_ble_eq_true rfl) ?_
    refine v_aload_n (pc' := 29) hx dX0_keepRing_28 rfl rfl ?_
    obtain ⟨g_8, hq_9⟩ : ∃ q, zA w 0 a0 2 = q := ⟨_, rfl⟩
    refine v_getAq (pc' := 32) hx hl0 fi_0_2.1 (by decide) hq_9 fk_X0_18 dX0_keepRing_29 rfl ?_
    refine v_iload (pc' := 34) hx dX0_keepRing_32 rfl rfl ?_
    refine v_iload_n (pc' := 35) hx dX0_keepRing_34 rfl rfl ?_
    replace h := ckp_inv h; obtain ⟨hk_10, h⟩ := h
    refine v_iastq (pc' := 36) hx hl0 fi_0_2.1 fi_0_2.2.1 rfl hk_10 hq_9 dX0_keepRing_35 rfl ?_
    replace h := lt_inv h; obtain ⟨w_11, ew_12, h⟩ := h
    rw [← ew_12]
    have hl_13 : zL w_11 0 a0 = true := by rw [ew_12]; exact hl0
    refine v_iinc (pc' := 39) (w0 := (x4 + 1)) (L' := [some (.ref a0), none, some (.int x2), some (.int y_6), some (.int (x4 + 1))]) hx dX0_keepRing_36 rfl rfl rfl rfl ?_
    refine v_goto (tgt := 12) hx dX0_keepRing_39 (by decide) ?_
    exact hrec12 a0 x2 y_6 (x4 + 1) w_11 h hl_13
theorem vX0_keepRing_l12 {x : CT} (hx : CX x cX0_keepRing RX0 rmX0_keepRing none) {w0 : Wd} (hq : RV x rmX0_keepRing w0) : ∀ (n : Nat) (a0 : Nat) (x2 : Int32) (x3 : Int32) (x4 : Int32) (w : Wd), (zL w 0 a0 = true) → fX0_keepRing_l12  n a0 x2 x3 x4 w = some w0 → V x 12 [some (.ref a0), none, some (.int x2), some (.int x3), some (.int x4)] [] (Rp (xD x) w) 0 0 := by
  intro n
  induction n with
  | zero => intro a0 x2 x3 x4 w hl0 h; cases h
  | succ n ih =>
    intro a0 x2 x3 x4 w hl0 h
    exact vX0_keepRing_b12 hx hq  (fun a0 x2 x3 x4 w h hl0 => ih a0 x2 x3 x4 w hl0 h) hl0 h
theorem vX0_keepRing {x : CT} (hx : CX x cX0_keepRing RX0 rmX0_keepRing none) {w0 : Wd} {w : Wd} (hq : RV x rmX0_keepRing w0) (a0 : Nat) (x1 : Int32) (x2 : Int32) (hl0 : zL w 0 a0 = true) (h : fX0_keepRing a0 x1 x2 w = some w0) : V x 0 [some (.ref a0), some (.int x1), some (.int x2), none, none] [] (Rp (xD x) w) 0 0 := by
  unfold fX0_keepRing at h
  refine v_iload_n (pc' := 1) hx dX0_keepRing_0 rfl rfl ?_
  refine v_istore_n (pc' := 2) (L' := [some (.ref a0), some (.int x1), some (.int x2), some (.int x1), none]) hx dX0_keepRing_1 rfl rfl (Nat.le_of_ble_eq_true rfl) ?_
  refine v_aload_n (pc' := 3) hx dX0_keepRing_2 rfl rfl ?_
  obtain ⟨g_1, hq_2⟩ : ∃ q, zA w 0 a0 2 = q := ⟨_, rfl⟩
  refine v_getAq (pc' := 6) hx hl0 fi_0_2.1 (by decide) hq_2 fk_X0_18 dX0_keepRing_3 rfl ?_
  refine v_iconst (pc' := 7) (v := 0) hx dX0_keepRing_6 (by decide) rfl ?_
  refine v_iload_n (pc' := 8) hx dX0_keepRing_7 rfl rfl ?_
  replace h := ckp_inv h; obtain ⟨hk_3, h⟩ := h
  refine v_iastq (pc' := 9) hx hl0 fi_0_2.1 fi_0_2.2.1 rfl hk_3 hq_2 dX0_keepRing_8 rfl ?_
  replace h := lt_inv h; obtain ⟨w_4, ew_5, h⟩ := h
  rw [← ew_5]
  have hl_6 : zL w_4 0 a0 = true := by rw [ew_5]; exact hl0
  refine v_iconst (pc' := 10) (v := 1) hx dX0_keepRing_9 (by decide) rfl ?_
  refine v_istore (pc' := 12) (L' := [some (.ref a0), some (.int x1), some (.int x2), some (.int x1), some (.int 1)]) hx dX0_keepRing_10 rfl rfl (Nat.le_of_ble_eq_true rfl) ?_
  refine V.sb (L' := [some (.ref a0), none, some (.int x2), some (.int x1), some (.int 1)]) ⟨Or.inr rfl, Or.inl rfl, Or.inr rfl, Or.inr rfl, Or.inr rfl, trivial⟩ ?_
  exact vX0_keepRing_l12 hx hq 1000 a0 x2 x1 1 w_4 hl_6 h
theorem ctX0_keepRing (l : Launch) (D : DD) (w : Wd) (G : GT) (sz : Nat) (hR : Rp D w G sz) (a0 : Nat) (x1 : Int32) (x2 : Int32) (hl0 : zL w 0 a0 = true) {w0 : Wd} (h : fX0_keepRing a0 x1 x2 w = some w0) : MetV l yX0_keepRing (WS yX0_keepRing cX0_keepRing 5 none) rmX0_keepRing D [.ref a0, .int x1, .int x2] G sz w0 := by
  refine MetV_ofV (own := RX0) (P := Rp D w) hR (by decide) rfl (by simp [Value.category]) (Nat.le_of_ble_eq_true rfl) (fun x hx hq hD hl => ?_)
  subst hD
  exact vX0_keepRing hx hq a0 x1 x2 hl0 h
theorem kX0_findRing_b51 {w0 : Wd} {rec7 : Nat → Int32 → Wd → Option (Wd)} {a0 : Nat} {x1 : Int32} {w wb : Wd} (hkr7 : ∀ (a0 : Nat) (x1 : Int32) (w : Wd), rec7 a0 x1 w = some w0 → mo wb w → mo wb w0) (hm : mo wb w) (h : fX0_findRing_b51 rec7 a0 x1 w = some w0) : mo wb w0 := by
  unfold fX0_findRing_b51 at h
  exact hkr7 a0 (x1 + 1) w h hm
theorem kX0_findRing_b45 {w0 : Wd} {rec7 : Nat → Int32 → Wd → Option (Wd)} {a0 : Nat} {x1 : Int32} {x2 : Int32} {w wb : Wd} (hkr7 : ∀ (a0 : Nat) (x1 : Int32) (w : Wd), rec7 a0 x1 w = some w0 → mo wb w → mo wb w0) (hm : mo wb w) (h : fX0_findRing_b45 rec7 a0 x1 x2 w = some w0) : mo wb w0 := by
  unfold fX0_findRing_b45 at h
  replace h := bd_inv h; obtain ⟨w_2, hcl_1, h⟩ := h
  have hm := hm.tr (kX0_keepRing hcl_1)
  exact kX0_findRing_b51 hkr7 hm h
theorem kX0_findRing_b7 {w0 : Wd} {rec7 : Nat → Int32 → Wd → Option (Wd)} {a0 : Nat} {x1 : Int32} {w wb : Wd} (hkr7 : ∀ (a0 : Nat) (x1 : Int32) (w : Wd), rec7 a0 x1 w = some w0 → mo wb w → mo wb w0) (hm : mo wb w) (h : fX0_findRing_b7 rec7 a0 x1 w = some w0) : mo wb w0 := by
  unfold fX0_findRing_b7 at h
  by_cases hc_1 : 16 ≤ x1
  · rw [if_pos hc_1] at h
    cases h; exact hm
  · rw [if_neg hc_1] at h
    replace h := bd_inv h; obtain ⟨w_3, hcl_2, h⟩ := h
    have hm := hm.tr (kX0_measureWaysBack hcl_2)
    replace h := bd_inv h; obtain ⟨y_9, hcl_8, h⟩ := h
    by_cases hc_11 : 16 < y_9
    · rw [if_pos hc_11] at h
      exact kX0_findRing_b51 hkr7 hm h
    · rw [if_neg hc_11] at h
      by_cases hc_12 : (zI w_3 0 a0 3 0) = 0
      · rw [if_pos hc_12] at h
        exact kX0_findRing_b45 hkr7 hm h
      · rw [if_neg hc_12] at h
        by_cases hc_13 : (zI w_3 0 a0 3 0) ≤ y_9
        · rw [if_pos hc_13] at h
          exact kX0_findRing_b51 hkr7 hm h
        · rw [if_neg hc_13] at h
          exact kX0_findRing_b45 hkr7 hm h
theorem kX0_findRing_l7 {w0 : Wd} {wb : Wd} : ∀ (n : Nat) (a0 : Nat) (x1 : Int32) (w : Wd), mo wb w → fX0_findRing_l7  n a0 x1 w = some w0 → mo wb w0 := by
  intro n
  induction n with
  | zero => intro a0 x1 w hm h; cases h
  | succ n ih =>
    intro a0 x1 w hm h
    exact kX0_findRing_b7  (fun a0 x1 w h hm => ih a0 x1 w hm h) hm h
theorem kX0_findRing {w0 : Wd} {a0 : Nat} {w : Wd} (h : fX0_findRing a0 w = some w0) : mo w w0 := by
  have hm := mo_rf w
  unfold fX0_findRing at h
  replace h := lt_inv h; obtain ⟨w_1, ew_2, h⟩ := h
  have hm := mo_eI hm ew_2
  exact kX0_findRing_l7 1000 a0 0 w_1 hm h
theorem vX0_findRing_b51 {x : CT} (hx : CX x cX0_findRing RX0 rmX0_findRing none) {w0 : Wd} (hq : RV x rmX0_findRing w0) {rec7 : Nat → Int32 → Wd → Option (Wd)} {a0 : Nat} {x1 : Int32} {w : Wd} (hrec7 : ∀ (a0 : Nat) (x1 : Int32) (w : Wd), rec7 a0 x1 w = some w0 → (zL w 0 a0 = true) → V x 7 [some (.ref a0), some (.int x1), none] [] (Rp (xD x) w) 0 0) (hl0 : zL w 0 a0 = true) (h : fX0_findRing_b51 rec7 a0 x1 w = some w0) : V x 51 [some (.ref a0), some (.int x1), none] [] (Rp (xD x) w) 0 0 := by
  unfold fX0_findRing_b51 at h
  refine v_iinc (pc' := 54) (w0 := (x1 + 1)) (L' := [some (.ref a0), some (.int (x1 + 1)), none]) hx dX0_findRing_51 rfl rfl rfl rfl ?_
  refine v_goto (tgt := 7) hx dX0_findRing_54 (by decide) ?_
  exact hrec7 a0 (x1 + 1) w h hl0
theorem vX0_findRing_b45 {x : CT} (hx : CX x cX0_findRing RX0 rmX0_findRing none) {w0 : Wd} (hq : RV x rmX0_findRing w0) {rec7 : Nat → Int32 → Wd → Option (Wd)} {a0 : Nat} {x1 : Int32} {x2 : Int32} {w : Wd} (hrec7 : ∀ (a0 : Nat) (x1 : Int32) (w : Wd), rec7 a0 x1 w = some w0 → (zL w 0 a0 = true) → V x 7 [some (.ref a0), some (.int x1), none] [] (Rp (xD x) w) 0 0) (hl0 : zL w 0 a0 = true) (h : fX0_findRing_b45 rec7 a0 x1 x2 w = some w0) : V x 45 [some (.ref a0), some (.int x1), some (.int x2)] [] (Rp (xD x) w) 0 0 := by
  unfold fX0_findRing_b45 at h
  refine v_aload_n (pc' := 46) hx dX0_findRing_45 rfl rfl ?_
  refine v_iload_n (pc' := 47) hx dX0_findRing_46 rfl rfl ?_
  refine v_iload_n (pc' := 48) hx dX0_findRing_47 rfl rfl ?_
  replace h := bd_inv h; obtain ⟨w_2, hcl_1, h⟩ := h
  refine v_wf (fun hwf_3 => ?_)
  refine v_callVv (pc' := 51) (w' := w_2) (ci := 0) (b := a0) (As := [.int x1, .int x2]) (rest := []) hx hl0 (fun G sz hR => ctX0_keepRing (xl x) (xD x) w G sz hR a0 x1 x2 hl0 hcl_1) rfl my_X0_keepRing ml_X0_59 ⟨by decide, by decide⟩ ⟨by decide, by decide⟩ rfl rfl (Nat.le_of_ble_eq_true rfl) dX0_findRing_48 rfl ?_
  have hm_5 := kX0_keepRing hcl_1 hwf_3
  have hl_6 : zL w_2 0 a0 = true := (hm_5.2 _ _ hl0).1
  refine V.sb (L' := [some (.ref a0), some (.int x1), none]) ⟨Or.inr rfl, Or.inr rfl, Or.inl rfl, trivial⟩ ?_
  exact vX0_findRing_b51 hx hq hrec7 hl_6 h
theorem vX0_findRing_b7 {x : CT} (hx : CX x cX0_findRing RX0 rmX0_findRing none) {w0 : Wd} (hq : RV x rmX0_findRing w0) {rec7 : Nat → Int32 → Wd → Option (Wd)} {a0 : Nat} {x1 : Int32} {w : Wd} (hrec7 : ∀ (a0 : Nat) (x1 : Int32) (w : Wd), rec7 a0 x1 w = some w0 → (zL w 0 a0 = true) → V x 7 [some (.ref a0), some (.int x1), none] [] (Rp (xD x) w) 0 0) (hl0 : zL w 0 a0 = true) (h : fX0_findRing_b7 rec7 a0 x1 w = some w0) : V x 7 [some (.ref a0), some (.int x1), none] [] (Rp (xD x) w) 0 0 := by
  unfold fX0_findRing_b7 at h
  refine v_iload_n (pc' := 8) hx dX0_findRing_7 rfl rfl ?_
  refine v_bipush (pc' := 10) (v := 16) hx dX0_findRing_8 (by decide) rfl ?_
  refine v_icmp_ge (tgt := 57) (pc' := 13) hx dX0_findRing_10 (by decide) rfl (fun hc_1 => ?_) (fun hc_1 => ?_)
  · rw [if_pos hc_1] at h
    exact v_vret hx hq (by decide) (by decide) dX0_findRing_57 (by cases h; rfl)
  · rw [if_neg hc_1] at h
    refine v_aload_n (pc' := 14) hx dX0_findRing_13 rfl rfl ?_
    refine v_iload_n (pc' := 15) hx dX0_findRing_14 rfl rfl ?_
    replace h := bd_inv h; obtain ⟨w_3, hcl_2, h⟩ := h
    refine v_wf (fun hwf_4 => ?_)
    refine v_callVv (pc' := 18) (w' := w_3) (ci := 0) (b := a0) (As := [.int x1]) (rest := []) hx hl0 (fun G sz hR => ctX0_measureWaysBack (xl x) (xD x) w G sz hR a0 x1 hl0 hcl_2) rfl my_X0_measureWaysBack ml_X0_51 ⟨by decide, by decide⟩ ⟨by decide, by decide⟩ rfl rfl (Nat.le_of_ble_eq_true rfl) dX0_findRing_15 rfl ?_
    have hm_6 := kX0_measureWaysBack hcl_2 hwf_4
    have hl_7 : zL w_3 0 a0 = true := (hm_6.2 _ _ hl0).1
    refine v_aload_n (pc' := 19) hx dX0_findRing_18 rfl rfl ?_
    refine v_iload_n (pc' := 20) hx dX0_findRing_19 rfl rfl ?_
    replace h := bd_inv h; obtain ⟨y_9, hcl_8, h⟩ := h
    refine v_callVi (pc' := 23) (w' := w_3) (r := y_9) (ci := 0) (b := a0) (As := [.int x1]) (rest := []) hx hl_7 (fun G sz hR => ctX0_sizeOfRingFrom (xl x) (xD x) w_3 G sz hR a0 x1 hl_7 hcl_8) rfl my_X0_sizeOfRingFrom ml_X0_55 ⟨by decide, by decide⟩ ⟨by decide, by decide⟩ rfl rfl (Nat.le_of_ble_eq_true rfl) dX0_findRing_20 rfl ?_
    refine v_istore_n (pc' := 24) (L' := [some (.ref a0), some (.int x1), some (.int y_9)]) hx dX0_findRing_23 rfl rfl (Nat.le_of_ble_eq_true rfl) ?_
    refine v_iload_n (pc' := 25) hx dX0_findRing_24 rfl rfl ?_
    refine v_bipush (pc' := 27) (v := 16) hx dX0_findRing_25 (by decide) rfl ?_
    refine v_icmp_gt (tgt := 51) (pc' := 30) hx dX0_findRing_27 (by decide) rfl (fun hc_11 => ?_) (fun hc_11 => ?_)
    · rw [if_pos hc_11] at h
      refine V.sb (L' := [some (.ref a0), some (.int x1), none]) ⟨Or.inr rfl, Or.inr rfl, Or.inl rfl, trivial⟩ ?_
      exact vX0_findRing_b51 hx hq hrec7 hl_7 h
    · rw [if_neg hc_11] at h
      refine v_aload_n (pc' := 31) hx dX0_findRing_30 rfl rfl ?_
      refine v_getI (pc' := 34) hx hl_7 fi_0_3.1 fi_0_3.2.1 fk_X0_40 dX0_findRing_31 rfl ?_
      refine v_if_eq (tgt := 45) (pc' := 37) hx dX0_findRing_34 (by decide) rfl (fun hc_12 => ?_) (fun hc_12 => ?_)
      · rw [if_pos hc_12] at h
        exact vX0_findRing_b45 hx hq hrec7 hl_7 h
      · rw [if_neg hc_12] at h
        refine v_iload_n (pc' := 38) hx dX0_findRing_37 rfl rfl ?_
        refine v_aload_n (pc' := 39) hx dX0_findRing_38 rfl rfl ?_
        refine v_getI (pc' := 42) hx hl_7 fi_0_3.1 fi_0_3.2.1 fk_X0_40 dX0_findRing_39 rfl ?_
        refine v_icmp_ge (tgt := 51) (pc' := 45) hx dX0_findRing_42 (by decide) rfl (fun hc_13 => ?_) (fun hc_13 => ?_)
        · rw [if_pos hc_13] at h
          refine V.sb (L' := [some (.ref a0), some (.int x1), none]) ⟨Or.inr rfl, Or.inr rfl, Or.inl rfl, trivial⟩ ?_
          exact vX0_findRing_b51 hx hq hrec7 hl_7 h
        · rw [if_neg hc_13] at h
          exact vX0_findRing_b45 hx hq hrec7 hl_7 h
theorem vX0_findRing_l7 {x : CT} (hx : CX x cX0_findRing RX0 rmX0_findRing none) {w0 : Wd} (hq : RV x rmX0_findRing w0) : ∀ (n : Nat) (a0 : Nat) (x1 : Int32) (w : Wd), (zL w 0 a0 = true) → fX0_findRing_l7  n a0 x1 w = some w0 → V x 7 [some (.ref a0), some (.int x1), none] [] (Rp (xD x) w) 0 0 := by
  intro n
  induction n with
  | zero => intro a0 x1 w hl0 h; cases h
  | succ n ih =>
    intro a0 x1 w hl0 h
    exact vX0_findRing_b7 hx hq  (fun a0 x1 w h hl0 => ih a0 x1 w hl0 h) hl0 h
theorem vX0_findRing {x : CT} (hx : CX x cX0_findRing RX0 rmX0_findRing none) {w0 : Wd} {w : Wd} (hq : RV x rmX0_findRing w0) (a0 : Nat) (hl0 : zL w 0 a0 = true) (h : fX0_findRing a0 w = some w0) : V x 0 [some (.ref a0), none, none] [] (Rp (xD x) w) 0 0 := by
  unfold fX0_findRing at h
  refine v_aload_n (pc' := 1) hx dX0_findRing_0 rfl rfl ?_
  refine v_iconst (pc' := 2) (v := 0) hx dX0_findRing_1 (by decide) rfl ?_
  refine v_putI (pc' := 5) hx hl0 fi_0_3.1 fi_0_3.2.1 fi_0_3.2.2 fk_X0_40 dX0_findRing_2 rfl ?_
  replace h := lt_inv h; obtain ⟨w_1, ew_2, h⟩ := h
  rw [← ew_2]
  have hl_3 : zL w_1 0 a0 = true := by rw [ew_2]; exact hl0
  refine v_iconst (pc' := 6) (v := 0) hx dX0_findRing_5 (by decide) rfl ?_
  refine v_istore_n (pc' := 7) (L' := [some (.ref a0), some (.int 0), none]) hx dX0_findRing_6 rfl rfl (Nat.le_of_ble_eq_true rfl) ?_
  exact vX0_findRing_l7 hx hq 1000 a0 0 w_1 hl_3 h
theorem ctX0_findRing (l : Launch) (D : DD) (w : Wd) (G : GT) (sz : Nat) (hR : Rp D w G sz) (a0 : Nat) (hl0 : zL w 0 a0 = true) {w0 : Wd} (h : fX0_findRing a0 w = some w0) : MetV l yX0_findRing (WS yX0_findRing cX0_findRing 3 none) rmX0_findRing D [.ref a0] G sz w0 := by
  refine MetV_ofV (own := RX0) (P := Rp D w) hR (by decide) rfl (by simp [Value.category]) (Nat.le_of_ble_eq_true rfl) (fun x hx hq hD hl => ?_)
  subst hD
  exact vX0_findRing hx hq a0 hl0 h
theorem kX0_learn_b42 {w0 : Wd} {rec11 : Nat → Nat → Int32 → Int32 → Wd → Option (Wd)} {a0 : Nat} {o2 : Nat} {x3 : Int32} {x4 : Int32} {w wb : Wd} (hkr11 : ∀ (a0 : Nat) (o2 : Nat) (x3 : Int32) (x4 : Int32) (w : Wd), rec11 a0 o2 x3 x4 w = some w0 → mo wb w → mo wb w0) (hm : mo wb w) (h : fX0_learn_b42 rec11 a0 o2 x3 x4 w = some w0) : mo wb w0 := by
  unfold fX0_learn_b42 at h
  exact hkr11 a0 o2 x3 (x4 + 1) w h hm
theorem kX0_learn_b11 {w0 : Wd} {rec11 : Nat → Nat → Int32 → Int32 → Wd → Option (Wd)} {a0 : Nat} {o2 : Nat} {x3 : Int32} {x4 : Int32} {w wb : Wd} (hkr11 : ∀ (a0 : Nat) (o2 : Nat) (x3 : Int32) (x4 : Int32) (w : Wd), rec11 a0 o2 x3 x4 w = some w0 → mo wb w → mo wb w0) (hm : mo wb w) (h : fX0_learn_b11 rec11 a0 o2 x3 x4 w = some w0) : mo wb w0 := by
  unfold fX0_learn_b11 at h
  by_cases hc_1 : x3 ≤ x4
  · rw [if_pos hc_1] at h
    replace h := bd_inv h; obtain ⟨w_3, hcl_2, h⟩ := h
    have hm := hm.tr (kX0_findRing hcl_2)
    cases h; exact hm
  · rw [if_neg hc_1] at h
    replace h := ckp_inv h; obtain ⟨hk_10, h⟩ := h
    replace h := lt_inv h; obtain ⟨u_11, er_12, h⟩ := h
    rcases u_11 with _ | b_15
    · rw [oc_n] at h
      exact kX0_learn_b42 hkr11 hm h
    · rw [oc_s] at h
      replace h := bd_inv h; obtain ⟨y_19, hcl_18, h⟩ := h
      by_cases hc_21 : y_19 = 0
      · rw [if_pos hc_21] at h
        exact kX0_learn_b42 hkr11 hm h
      · rw [if_neg hc_21] at h
        replace h := bd_inv h; obtain ⟨w_23, hcl_22, h⟩ := h
        have hm := hm.tr (kX0_learnRow hcl_22)
        exact kX0_learn_b42 hkr11 hm h
theorem kX0_learn_l11 {w0 : Wd} {wb : Wd} : ∀ (n : Nat) (a0 : Nat) (o2 : Nat) (x3 : Int32) (x4 : Int32) (w : Wd), mo wb w → fX0_learn_l11  n a0 o2 x3 x4 w = some w0 → mo wb w0 := by
  intro n
  induction n with
  | zero => intro a0 o2 x3 x4 w hm h; cases h
  | succ n ih =>
    intro a0 o2 x3 x4 w hm h
    exact kX0_learn_b11  (fun a0 o2 x3 x4 w h hm => ih a0 o2 x3 x4 w hm h) hm h
theorem kX0_learn {w0 : Wd} {a0 : Nat} {a1 : Nat} {w : Wd} (h : fX0_learn a0 a1 w = some w0) : mo w w0 := by
  have hm := mo_rf w
  unfold fX0_learn at h
  exact kX0_learn_l11 1000 a0 a1 24 0 w hm h
theorem vX0_learn_b42 {x : CT} (hx : CX x cX0_learn RX0 rmX0_learn none) {w0 : Wd} (hq : RV x rmX0_learn w0) {rec11 : Nat → Nat → Int32 → Int32 → Wd → Option (Wd)} {a0 : Nat} {o2 : Nat} {x3 : Int32} {x4 : Int32} { q2 : Nat} {w : Wd} (hrec11 : ∀ (a0 : Nat) (o2 : Nat) (x3 : Int32) (x4 : Int32) (q2 : Nat) (w : Wd), rec11 a0 o2 x3 x4 w = some w0 → (zL w 0 a0 = true) → (zL w 1 o2 = true) → (zA w 1 o2 1 = q2) → V x 11 [some (.ref a0), none, some (.ref q2), some (.int x3), some (.int x4), none] [] (Rp (xD x) w) 0 0) (hl0 : zL w 0 a0 = true) (hl2 : zL w 1 o2 = true) (hq2 : zA w 1 o2 1 = q2) (h : fX0_learn_b42 rec11 a0 o2 x3 x4 w = some w0) : V x 42 [some (.ref a0), none, some (.ref q2), some (.int x3), some (.int x4), none] [] (Rp (xD x) w) 0 0 := by
  unfold fX0_learn_b42 at h
  refine v_iinc (pc' := 45) (w0 := (x4 + 1)) (L' := [some (.ref a0), none, some (.ref q2), some (.int x3), some (.int (x4 + 1)), none]) hx dX0_learn_42 rfl rfl rfl rfl ?_
  refine v_goto (tgt := 11) hx dX0_learn_45 (by decide) ?_
  exact hrec11 a0 o2 x3 (x4 + 1) q2 w h hl0 hl2 hq2
theorem vX0_learn_b11 {x : CT} (hx : CX x cX0_learn RX0 rmX0_learn none) {w0 : Wd} (hq : RV x rmX0_learn w0) {rec11 : Nat → Nat → Int32 → Int32 → Wd → Option (Wd)} {a0 : Nat} {o2 : Nat} {x3 : Int32} {x4 : Int32} { q2 : Nat} {w : Wd} (hrec11 : ∀ (a0 : Nat) (o2 : Nat) (x3 : Int32) (x4 : Int32) (q2 : Nat) (w : Wd), rec11 a0 o2 x3 x4 w = some w0 → (zL w 0 a0 = true) → (zL w 1 o2 = true) → (zA w 1 o2 1 = q2) → V x 11 [some (.ref a0), none, some (.ref q2), some (.int x3), some (.int x4), none] [] (Rp (xD x) w) 0 0) (hl0 : zL w 0 a0 = true) (hl2 : zL w 1 o2 = true) (hq2 : zA w 1 o2 1 = q2) (h : fX0_learn_b11 rec11 a0 o2 x3 x4 w = some w0) : V x 11 [some (.ref a0), none, some (.ref q2), some (.int x3), some (.int x4), none] [] (Rp (xD x) w) 0 0 := by
  unfold fX0_learn_b11 at h
  refine v_iload (pc' := 13) hx dX0_learn_11 rfl rfl ?_
  refine v_iload_n (pc' := 14) hx dX0_learn_13 rfl rfl ?_
  refine v_icmp_ge (tgt := 48) (pc' := 17) hx dX0_learn_14 (by decide) rfl (fun hc_1 => ?_) (fun hc_1 => ?_)
  · rw [if_pos hc_1] at h
    refine v_aload_n (pc' := 49) hx dX0_learn_48 rfl rfl ?_
    replace h := bd_inv h; obtain ⟨w_3, hcl_2, h⟩ := h
    refine v_wf (fun hwf_4 => ?_)
    refine v_callVv (pc' := 52) (w' := w_3) (ci := 0) (b := a0) (As := []) (rest := []) hx hl0 (fun G sz hR => ctX0_findRing (xl x) (xD x) w G sz hR a0 hl0 hcl_2) rfl my_X0_findRing ml_X0_37 ⟨by decide, by decide⟩ ⟨by decide, by decide⟩ rfl rfl (Nat.le_of_ble_eq_true rfl) dX0_learn_49 rfl ?_
    have hm_6 := kX0_findRing hcl_2 hwf_4
    have hl_7 : zL w_3 0 a0 = true := (hm_6.2 _ _ hl0).1
    have hl_8 : zL w_3 1 o2 = true := (hm_6.2 _ _ hl2).1
    have hq_9 : zA w_3 1 o2 1 = q2 := ((hm_6.2 _ _ hl2).2 1).trans hq2
    exact v_vret hx hq (by decide) (by decide) dX0_learn_52 (by cases h; rfl)
  · rw [if_neg hc_1] at h
    refine v_aload_n (pc' := 18) hx dX0_learn_17 rfl rfl ?_
    refine v_iload (pc' := 20) hx dX0_learn_18 rfl rfl ?_
    replace h := ckp_inv h; obtain ⟨hk_10, h⟩ := h
    refine v_aaldq (pc' := 21) hx hl2 fi_1_1.1 fi_1_1.2.2 rfl hk_10 hq2 dX0_learn_20 rfl ?_
    replace h := lt_inv h; obtain ⟨u_11, er_12, h⟩ := h
    rw [← er_12]
    refine v_liv hl2 (fun ht_13 => ?_)
    have hl_14 : ∀ b, u_11 = some b → zL w 2 b = true := fun b hb => ht_13 1 _ b (er_12.symm.trans hb)
    refine v_astoreq (pc' := 23) (L' := [some (.ref a0), none, some (.ref q2), some (.int x3), some (.int x4), some (va_rf u_11)]) hx dX0_learn_21 rfl rfl (Nat.le_of_ble_eq_true rfl) ?_
    refine v_aloadq (pc' := 25) hx dX0_learn_23 rfl rfl ?_
    refine v_ifnull (tgt := 42) (pc' := 28) hx dX0_learn_25 (by decide) rfl (fun hn_16 => ?_) (fun b_15 hn_16 => ?_)
    · subst hn_16
      rw [oc_n] at h
      refine V.sb (L' := [some (.ref a0), none, some (.ref q2), some (.int x3), some (.int x4), none]) ⟨Or.inr rfl, Or.inl rfl, Or.inr rfl, Or.inr rfl, Or.inr rfl, Or.inl rfl, trivial⟩ ?_
      exact vX0_learn_b42 hx hq hrec11 hl0 hl2 hq2 h
    · subst hn_16
      rw [oc_s] at h
      have hl_17 : zL w 2 b_15 = true := hl_14 _ rfl
      refine v_aload (pc' := 30) hx dX0_learn_28 rfl rfl ?_
      replace h := bd_inv h; obtain ⟨y_19, hcl_18, h⟩ := h
      refine v_callVi (pc' := 33) (w' := w) (r := y_19) (ci := 2) (b := b_15) (As := []) (rest := []) hx hl_17 (fun G sz hR => ctX2_isWaiting (xl x) (xD x) w G sz hR b_15 hl_17 hcl_18) rfl my_X2_isWaiting ml_X0_27 ⟨by decide, by decide⟩ ⟨by decide, by decide⟩ rfl rfl (Nat.le_of_ble_eq_true rfl) dX0_learn_30 rfl ?_
      refine v_if_eq (tgt := 42) (pc' := 36) hx dX0_learn_33 (by decide) rfl (fun hc_21 => ?_) (fun hc_21 => ?_)
      · rw [if_pos hc_21] at h
        refine V.sb (L' := [some (.ref a0), none, some (.ref q2), some (.int x3), some (.int x4), none]) ⟨Or.inr rfl, Or.inl rfl, Or.inr rfl, Or.inr rfl, Or.inr rfl, Or.inl rfl, trivial⟩ ?_
        exact vX0_learn_b42 hx hq hrec11 hl0 hl2 hq2 h
      · rw [if_neg hc_21] at h
        refine v_aload_n (pc' := 37) hx dX0_learn_36 rfl rfl ?_
        refine v_aload (pc' := 39) hx dX0_learn_37 rfl rfl ?_
        replace h := bd_inv h; obtain ⟨w_23, hcl_22, h⟩ := h
        refine v_wf (fun hwf_24 => ?_)
        refine v_callVv (pc' := 42) (w' := w_23) (ci := 0) (b := a0) (As := [.ref b_15]) (rest := []) hx hl0 (fun G sz hR => ctX0_learnRow (xl x) (xD x) w G sz hR a0 b_15 hl0 hl_17 hcl_22) rfl my_X0_learnRow ml_X0_33 ⟨by decide, by decide⟩ ⟨by decide, by decide⟩ rfl rfl (Nat.le_of_ble_eq_true rfl) dX0_learn_39 rfl ?_
        have hm_26 := kX0_learnRow hcl_22 hwf_24
        have hl_27 : zL w_23 0 a0 = true := (hm_26.2 _ _ hl0).1
        have hl_28 : zL w_23 1 o2 = true := (hm_26.2 _ _ hl2).1
        have hq_29 : zA w_23 1 o2 1 = q2 := ((hm_26.2 _ _ hl2).2 1).trans hq2
        have hl_30 : zL w_23 2 b_15 = true := (hm_26.2 _ _ hl_17).1
        refine V.sb (L' := [some (.ref a0), none, some (.ref q2), some (.int x3), some (.int x4), none]) ⟨Or.inr rfl, Or.inl rfl, Or.inr rfl, Or.inr rfl, Or.inr rfl, Or.inl rfl, trivial⟩ ?_
        exact vX0_learn_b42 hx hq hrec11 hl_27 hl_28 hq_29 h
theorem vX0_learn_l11 {x : CT} (hx : CX x cX0_learn RX0 rmX0_learn none) {w0 : Wd} (hq : RV x rmX0_learn w0) : ∀ (n : Nat) (a0 : Nat) (o2 : Nat) (x3 : Int32) (x4 : Int32) (q2 : Nat) (w : Wd), (zL w 0 a0 = true) → (zL w 1 o2 = true) → (zA w 1 o2 1 = q2) → fX0_learn_l11  n a0 o2 x3 x4 w = some w0 → V x 11 [some (.ref a0), none, some (.ref q2), some (.int x3), some (.int x4), none] [] (Rp (xD x) w) 0 0 := by
  intro n
  induction n with
  | zero => intro a0 o2 x3 x4 q2 w hl0 hl2 hq2 h; cases h
  | succ n ih =>
    intro a0 o2 x3 x4 q2 w hl0 hl2 hq2 h
    exact vX0_learn_b11 hx hq  (fun a0 o2 x3 x4 q2 w h hl0 hl2 hq2 => ih a0 o2 x3 x4 q2 w hl0 hl2 hq2 h) hl0 hl2 hq2 h
theorem vX0_learn {x : CT} (hx : CX x cX0_learn RX0 rmX0_learn none) {w0 : Wd} {w : Wd} (hq : RV x rmX0_learn w0) (a0 : Nat) (a1 : Nat) (hl0 : zL w 0 a0 = true) (hl1 : zL w 1 a1 = true) (h : fX0_learn a0 a1 w = some w0) : V x 0 [some (.ref a0), some (.ref a1), none, none, none, none] [] (Rp (xD x) w) 0 0 := by
  unfold fX0_learn at h
  refine v_aload_n (pc' := 1) hx dX0_learn_0 rfl rfl ?_
  obtain ⟨g_1, hq_2⟩ : ∃ q, zA w 1 a1 1 = q := ⟨_, rfl⟩
  refine v_getAq (pc' := 4) hx hl1 fi_1_1.1 (by decide) hq_2 fk_X0_21 dX0_learn_1 rfl ?_
  refine v_astore_n (pc' := 5) (L' := [some (.ref a0), some (.ref a1), some (.ref g_1), none, none, none]) hx dX0_learn_4 rfl rfl (Nat.le_of_ble_eq_true rfl) ?_
  refine v_aload_n (pc' := 6) hx dX0_learn_5 rfl rfl ?_
  refine v_alenq (pc' := 7) (v := 24) hx hl1 fi_1_1.1 (by decide) (by decide) hq_2 dX0_learn_6 rfl ?_
  refine v_istore_n (pc' := 8) (L' := [some (.ref a0), some (.ref a1), some (.ref g_1), some (.int 24), none, none]) hx dX0_learn_7 rfl rfl (Nat.le_of_ble_eq_true rfl) ?_
  refine v_iconst (pc' := 9) (v := 0) hx dX0_learn_8 (by decide) rfl ?_
  refine v_istore (pc' := 11) (L' := [some (.ref a0), some (.ref a1), some (.ref g_1), some (.int 24), some (.int 0), none]) hx dX0_learn_9 rfl rfl (Nat.le_of_ble_eq_true rfl) ?_
  refine V.sb (L' := [some (.ref a0), none, some (.ref g_1), some (.int 24), some (.int 0), none]) ⟨Or.inr rfl, Or.inl rfl, Or.inr rfl, Or.inr rfl, Or.inr rfl, Or.inl rfl, trivial⟩ ?_
  exact vX0_learn_l11 hx hq 1000 a0 a1 24 0 g_1 w hl0 hl1 hq_2 h
theorem ctX0_learn (l : Launch) (D : DD) (w : Wd) (G : GT) (sz : Nat) (hR : Rp D w G sz) (a0 : Nat) (a1 : Nat) (hl0 : zL w 0 a0 = true) (hl1 : zL w 1 a1 = true) {w0 : Wd} (h : fX0_learn a0 a1 w = some w0) : MetV l yX0_learn (WS yX0_learn cX0_learn 6 none) rmX0_learn D [.ref a0, .ref a1] G sz w0 := by
  refine MetV_ofV (own := RX0) (P := Rp D w) hR (by decide) rfl (by simp [Value.category]) (Nat.le_of_ble_eq_true rfl) (fun x hx hq hD hl => ?_)
  subst hD
  exact vX0_learn hx hq a0 a1 hl0 hl1 h
theorem vX6_here_b28 {x : CT} (hx : CX x cX6_here RX6 rmX6_here (some .int)) {r0 : Int32} {w : Wd} (hq : RI x rmX6_here r0 w) {xs0 : Int32} (h : fX6_here_b28 w xs0 = some r0) : V x 28 [none] [.int xs0] (Rp (xD x) w) 0 0 := by
  unfold fX6_here_b28 at h
  exact v_iret hx hq (by decide) (by decide) dX6_here_28 (by cases h; rfl)
theorem vX6_here {x : CT} (hx : CX x cX6_here RX6 rmX6_here (some .int)) {r0 : Int32} {w : Wd} (hq : RI x rmX6_here r0 w) (a0 : Nat) (hl0 : zL w 6 a0 = true) (h : fX6_here a0 w = some r0) : V x 0 [some (.ref a0)] [] (Rp (xD x) w) 0 0 := by
  unfold fX6_here at h
  refine v_aload_n (pc' := 1) hx dX6_here_0 rfl rfl ?_
  refine v_getI (pc' := 4) hx hl0 fi_6_14.1 fi_6_14.2.1 fk_X6_74 dX6_here_1 rfl ?_
  refine v_aload_n (pc' := 5) hx dX6_here_4 rfl rfl ?_
  refine v_getI (pc' := 8) hx hl0 fi_6_15.1 fi_6_15.2.1 fk_X6_77 dX6_here_5 rfl ?_
  refine v_icmp_ge (tgt := 27) (pc' := 11) hx dX6_here_8 (by decide) rfl (fun hc_1 => ?_) (fun hc_1 => ?_)
  · rw [if_pos hc_1] at h
    refine v_iconst (pc' := 28) (v := 0) hx dX6_here_27 (by decide) rfl ?_
    refine V.sb (L' := [none]) ⟨Or.inl rfl, trivial⟩ ?_
    exact vX6_here_b28 hx hq h
  · rw [if_neg hc_1] at h
    refine v_aload_n (pc' := 12) hx dX6_here_11 rfl rfl ?_
    obtain ⟨g_2, hq_3⟩ : ∃ q, zA w 6 a0 0 = q := ⟨_, rfl⟩
    refine v_getAq (pc' := 15) hx hl0 fi_6_0.1 (by decide) hq_3 fk_X6_7 dX6_here_12 rfl ?_
    refine v_aload_n (pc' := 16) hx dX6_here_15 rfl rfl ?_
    refine v_getI (pc' := 19) hx hl0 fi_6_14.1 fi_6_14.2.1 fk_X6_74 dX6_here_16 rfl ?_
    replace h := ckp_inv h; obtain ⟨hk_4, h⟩ := h
    refine v_baldq (pc' := 20) hx hl0 fi_6_0.1 fi_6_0.2.1 rfl hk_4 hq_3 dX6_here_19 rfl ?_
    refine v_sipush (pc' := 23) (v := 255) hx dX6_here_20 (by decide) rfl ?_
    refine v_iand (pc' := 24) hx dX6_here_23 rfl ?_
    refine v_goto (tgt := 28) hx dX6_here_24 (by decide) ?_
    refine V.sb (L' := [none]) ⟨Or.inl rfl, trivial⟩ ?_
    exact vX6_here_b28 hx hq h
theorem ctX6_here (l : Launch) (D : DD) (w : Wd) (G : GT) (sz : Nat) (hR : Rp D w G sz) (a0 : Nat) (hl0 : zL w 6 a0 = true) {r0 : Int32} (h : fX6_here a0 w = some r0) : MetI l yX6_here (WS yX6_here cX6_here 1 (some .int)) rmX6_here D [.ref a0] G sz r0 w := by
  refine MetI_ofV (own := RX6) (P := Rp D w) hR (by decide) rfl (by simp [Value.category]) (Nat.le_of_ble_eq_true rfl) (fun x hx hq hD hl => ?_)
  subst hD
  exact vX6_here hx hq a0 hl0 h
theorem vX6_lies_b15 {x : CT} (hx : CX x cX6_lies RX6 rmX6_lies (some .boolean)) {r0 : Int32} {w : Wd} (hq : RI x rmX6_lies r0 w) {xs0 : Int32} (h : fX6_lies_b15 w xs0 = some r0) : V x 15 [none, none, none] [.int xs0] (Rp (xD x) w) 0 0 := by
  unfold fX6_lies_b15 at h
  replace h := ckp_inv h; obtain ⟨hk_1, h⟩ := h
  exact v_zret hx hq (by decide) (by decide) dX6_lies_15 hk_1 (by cases h; rfl)
theorem vX6_lies_b14 {x : CT} (hx : CX x cX6_lies RX6 rmX6_lies (some .boolean)) {r0 : Int32} {w : Wd} (hq : RI x rmX6_lies r0 w) (h : fX6_lies_b14 w = some r0) : V x 14 [none, none, none] [] (Rp (xD x) w) 0 0 := by
  unfold fX6_lies_b14 at h
  refine v_iconst (pc' := 15) (v := 0) hx dX6_lies_14 (by decide) rfl ?_
  exact vX6_lies_b15 hx hq h
theorem vX6_lies {x : CT} (hx : CX x cX6_lies RX6 rmX6_lies (some .boolean)) {r0 : Int32} {w : Wd} (hq : RI x rmX6_lies r0 w) (x0 : Int32) (x1 : Int32) (x2 : Int32) (h : fX6_lies x0 x1 x2 w = some r0) : V x 0 [some (.int x0), some (.int x1), some (.int x2)] [] (Rp (xD x) w) 0 0 := by
  unfold fX6_lies at h
  refine v_iload_n (pc' := 1) hx dX6_lies_0 rfl rfl ?_
  refine v_iload_n (pc' := 2) hx dX6_lies_1 rfl rfl ?_
  refine v_icmp_lt (tgt := 14) (pc' := 5) hx dX6_lies_2 (by decide) rfl (fun hc_1 => ?_) (fun hc_1 => ?_)
  · rw [if_pos hc_1] at h
    refine V.sb (L' := [none, none, none]) ⟨Or.inl rfl, Or.inl rfl, Or.inl rfl, trivial⟩ ?_
    exact vX6_lies_b14 hx hq h
  · rw [if_neg hc_1] at h
    refine v_iload_n (pc' := 6) hx dX6_lies_5 rfl rfl ?_
    refine v_iload_n (pc' := 7) hx dX6_lies_6 rfl rfl ?_
    refine v_icmp_gt (tgt := 14) (pc' := 10) hx dX6_lies_7 (by decide) rfl (fun hc_2 => ?_) (fun hc_2 => ?_)
    · rw [if_pos hc_2] at h
      refine V.sb (L' := [none, none, none]) ⟨Or.inl rfl, Or.inl rfl, Or.inl rfl, trivial⟩ ?_
      exact vX6_lies_b14 hx hq h
    · rw [if_neg hc_2] at h
      refine v_iconst (pc' := 11) (v := 1) hx dX6_lies_10 (by decide) rfl ?_
      refine v_goto (tgt := 15) hx dX6_lies_11 (by decide) ?_
      refine V.sb (L' := [none, none, none]) ⟨Or.inl rfl, Or.inl rfl, Or.inl rfl, trivial⟩ ?_
      exact vX6_lies_b15 hx hq h
theorem ctX6_lies (l : Launch) (D : DD) (w : Wd) (G : GT) (sz : Nat) (hR : Rp D w G sz) (x0 : Int32) (x1 : Int32) (x2 : Int32) {r0 : Int32} (h : fX6_lies x0 x1 x2 w = some r0) : MetI l yX6_lies (WS yX6_lies cX6_lies 3 (some .boolean)) rmX6_lies D [.int x0, .int x1, .int x2] G sz r0 w := by
  refine MetI_ofV (own := RX6) (P := Rp D w) hR (by decide) rfl (by simp [Value.category]) (Nat.le_of_ble_eq_true rfl) (fun x hx hq hD hl => ?_)
  subst hD
  exact vX6_lies hx hq x0 x1 x2  h
theorem vX6_seesDigit {x : CT} (hx : CX x cX6_seesDigit RX6 rmX6_seesDigit (some .boolean)) {r0 : Int32} {w : Wd} (hq : RI x rmX6_seesDigit r0 w) (a0 : Nat) (hl0 : zL w 6 a0 = true) (h : fX6_seesDigit a0 w = some r0) : V x 0 [some (.ref a0)] [] (Rp (xD x) w) 0 0 := by
  unfold fX6_seesDigit at h
  refine v_aload_n (pc' := 1) hx dX6_seesDigit_0 rfl rfl ?_
  replace h := bd_inv h; obtain ⟨y_2, hcl_1, h⟩ := h
  refine v_callVi (pc' := 4) (w' := w) (r := y_2) (ci := 6) (b := a0) (As := []) (rest := []) hx hl0 (fun G sz hR => ctX6_here (xl x) (xD x) w G sz hR a0 hl0 hcl_1) rfl my_X6_here ml_X6_80 ⟨by decide, by decide⟩ ⟨by decide, by decide⟩ rfl rfl (Nat.le_of_ble_eq_true rfl) dX6_seesDigit_1 rfl ?_
  refine v_bipush (pc' := 6) (v := 48) hx dX6_seesDigit_4 (by decide) rfl ?_
  refine v_bipush (pc' := 8) (v := 57) hx dX6_seesDigit_6 (by decide) rfl ?_
  replace h := bd_inv h; obtain ⟨y_5, hcl_4, h⟩ := h
  refine v_callSi (pc' := 11) (w' := w) (r := y_5) (As := [.int y_2, .int 48, .int 57]) (rest := []) hx (fun G sz hR => ctX6_lies (xl x) (xD x) w G sz hR y_2 48 57  hcl_4) my_X6_lies ml_X6_84 ⟨by decide, by decide⟩ ⟨by decide, by decide⟩ rfl rfl (Nat.le_of_ble_eq_true rfl) dX6_seesDigit_8 rfl ?_
  replace h := ckp_inv h; obtain ⟨hk_7, h⟩ := h
  exact v_zret hx hq (by decide) (by decide) dX6_seesDigit_11 hk_7 (by cases h; rfl)
theorem ctX6_seesDigit (l : Launch) (D : DD) (w : Wd) (G : GT) (sz : Nat) (hR : Rp D w G sz) (a0 : Nat) (hl0 : zL w 6 a0 = true) {r0 : Int32} (h : fX6_seesDigit a0 w = some r0) : MetI l yX6_seesDigit (WS yX6_seesDigit cX6_seesDigit 1 (some .boolean)) rmX6_seesDigit D [.ref a0] G sz r0 w := by
  refine MetI_ofV (own := RX6) (P := Rp D w) hR (by decide) rfl (by simp [Value.category]) (Nat.le_of_ble_eq_true rfl) (fun x hx hq hD hl => ?_)
  subst hD
  exact vX6_seesDigit hx hq a0 hl0 h
theorem kX6_tears_b13 {w0 : Wd} {w wb : Wd} (hm : mo wb w) (h : fX6_tears_b13 w = some w0) : mo wb w0 := by
  unfold fX6_tears_b13 at h
  cases h; exact hm
theorem kX6_tears {w0 : Wd} {a0 : Nat} {x1 : Int32} {w : Wd} (h : fX6_tears a0 x1 w = some w0) : mo w w0 := by
  have hm := mo_rf w
  unfold fX6_tears at h
  by_cases hc_1 : (zI w 6 a0 16 0) = (-1)
  · rw [if_pos hc_1] at h
    replace h := lt_inv h; obtain ⟨w_2, ew_3, h⟩ := h
    have hm := mo_eI hm ew_3
    exact kX6_tears_b13 hm h
  · rw [if_neg hc_1] at h
    exact kX6_tears_b13 hm h
theorem vX6_tears_b13 {x : CT} (hx : CX x cX6_tears RX6 rmX6_tears none) {w0 : Wd} (hq : RV x rmX6_tears w0) {w : Wd} (h : fX6_tears_b13 w = some w0) : V x 13 [none, none] [] (Rp (xD x) w) 0 0 := by
  unfold fX6_tears_b13 at h
  exact v_vret hx hq (by decide) (by decide) dX6_tears_13 (by cases h; rfl)
theorem vX6_tears {x : CT} (hx : CX x cX6_tears RX6 rmX6_tears none) {w0 : Wd} {w : Wd} (hq : RV x rmX6_tears w0) (a0 : Nat) (x1 : Int32) (hl0 : zL w 6 a0 = true) (h : fX6_tears a0 x1 w = some w0) : V x 0 [some (.ref a0), some (.int x1)] [] (Rp (xD x) w) 0 0 := by
  unfold fX6_tears at h
  refine v_aload_n (pc' := 1) hx dX6_tears_0 rfl rfl ?_
  refine v_getI (pc' := 4) hx hl0 fi_6_16.1 fi_6_16.2.1 fk_X6_88 dX6_tears_1 rfl ?_
  refine v_iconst (pc' := 5) (v := (-1)) hx dX6_tears_4 (by decide) rfl ?_
  refine v_icmp_ne (tgt := 13) (pc' := 8) hx dX6_tears_5 (by decide) rfl (fun hc_1 => ?_) (fun hc_1 => ?_)
  · rw [if_neg hc_1] at h
    refine V.sb (L' := [none, none]) ⟨Or.inl rfl, Or.inl rfl, trivial⟩ ?_
    exact vX6_tears_b13 hx hq h
  · rw [if_pos hc_1] at h
    refine v_aload_n (pc' := 9) hx dX6_tears_8 rfl rfl ?_
    refine v_iload_n (pc' := 10) hx dX6_tears_9 rfl rfl ?_
    refine v_putI (pc' := 13) hx hl0 fi_6_16.1 fi_6_16.2.1 fi_6_16.2.2 fk_X6_88 dX6_tears_10 rfl ?_
    replace h := lt_inv h; obtain ⟨w_2, ew_3, h⟩ := h
    rw [← ew_3]
    have hl_4 : zL w_2 6 a0 = true := by rw [ew_3]; exact hl0
    refine V.sb (L' := [none, none]) ⟨Or.inl rfl, Or.inl rfl, trivial⟩ ?_
    exact vX6_tears_b13 hx hq h
theorem ctX6_tears (l : Launch) (D : DD) (w : Wd) (G : GT) (sz : Nat) (hR : Rp D w G sz) (a0 : Nat) (x1 : Int32) (hl0 : zL w 6 a0 = true) {w0 : Wd} (h : fX6_tears a0 x1 w = some w0) : MetV l yX6_tears (WS yX6_tears cX6_tears 2 none) rmX6_tears D [.ref a0, .int x1] G sz w0 := by
  refine MetV_ofV (own := RX6) (P := Rp D w) hR (by decide) rfl (by simp [Value.category]) (Nat.le_of_ble_eq_true rfl) (fun x hx hq hD hl => ?_)
  subst hD
  exact vX6_tears hx hq a0 x1 hl0 h
theorem kX6_number_b108 {r0 : Int32} {w0 : Wd} {x3 : Int32} {w wb : Wd} (hm : mo wb w) (h : fX6_number_b108 x3 w = some (r0, w0)) : mo wb w0 := by
  unfold fX6_number_b108 at h
  cases h; exact hm
theorem kX6_number_b87 {r0 : Int32} {w0 : Wd} {a0 : Nat} {x2 : Int32} {x3 : Int32} {w wb : Wd} (hm : mo wb w) (h : fX6_number_b87 a0 x2 x3 w = some (r0, w0)) : mo wb w0 := by
  unfold fX6_number_b87 at h
  by_cases hc_1 : (zI w 6 a0 16 0) = (-1)
  · rw [if_pos hc_1] at h
    by_cases hc_2 : x3 ≤ x2
    · rw [if_pos hc_2] at h
      exact kX6_number_b108 hm h
    · rw [if_neg hc_2] at h
      replace h := bd_inv h; obtain ⟨w_4, hcl_3, h⟩ := h
      have hm := hm.tr (kX6_tears hcl_3)
      exact kX6_number_b108 hm h
  · rw [if_neg hc_1] at h
    exact kX6_number_b108 hm h
theorem kX6_number_b61 {r0 : Int32} {w0 : Wd} {rec25 : Nat → Int32 → Int32 → Int32 → Wd → Option (Int32 × Wd)} {a0 : Nat} {x1 : Int32} {x2 : Int32} {x3 : Int32} {w wb : Wd} (hkr25 : ∀ (a0 : Nat) (x1 : Int32) (x2 : Int32) (x3 : Int32) (w : Wd), rec25 a0 x1 x2 x3 w = some (r0, w0) → mo wb w → mo wb w0) (hm : mo wb w) (h : fX6_number_b61 rec25 a0 x1 x2 x3 w = some (r0, w0)) : mo wb w0 := by
  unfold fX6_number_b61 at h
  replace h := bd_inv h; obtain ⟨y_2, hcl_1, h⟩ := h
  replace h := lt_inv h; obtain ⟨w_4, ew_5, h⟩ := h
  have hm := mo_eI hm ew_5
  exact hkr25 a0 x1 x2 (((10 * x3) + y_2) - 48) w_4 h hm
theorem kX6_number_b25 {r0 : Int32} {w0 : Wd} {rec25 : Nat → Int32 → Int32 → Int32 → Wd → Option (Int32 × Wd)} {a0 : Nat} {x1 : Int32} {x2 : Int32} {x3 : Int32} {w wb : Wd} (hkr25 : ∀ (a0 : Nat) (x1 : Int32) (x2 : Int32) (x3 : Int32) (w : Wd), rec25 a0 x1 x2 x3 w = some (r0, w0) → mo wb w → mo wb w0) (hm : mo wb w) (h : fX6_number_b25 rec25 a0 x1 x2 x3 w = some (r0, w0)) : mo wb w0 := by
  unfold fX6_number_b25 at h
  by_cases hc_1 : (zI w 6 a0 16 0) = (-1)
  · rw [if_pos hc_1] at h
    replace h := bd_inv h; obtain ⟨y_3, hcl_2, h⟩ := h
    by_cases hc_5 : y_3 = 0
    · rw [if_pos hc_5] at h
      exact kX6_number_b87 hm h
    · rw [if_neg hc_5] at h
      by_cases hc_6 : (zI w 6 a0 14 0) = ((zI w 6 a0 17 0) + x1)
      · rw [if_pos hc_6] at h
        replace h := bd_inv h; obtain ⟨w_8, hcl_7, h⟩ := h
        have hm := hm.tr (kX6_tears hcl_7)
        exact kX6_number_b61 hkr25 hm h
      · rw [if_neg hc_6] at h
        exact kX6_number_b61 hkr25 hm h
  · rw [if_neg hc_1] at h
    exact kX6_number_b87 hm h
theorem kX6_number_l25 {r0 : Int32} {w0 : Wd} {wb : Wd} : ∀ (n : Nat) (a0 : Nat) (x1 : Int32) (x2 : Int32) (x3 : Int32) (w : Wd), mo wb w → fX6_number_l25  n a0 x1 x2 x3 w = some (r0, w0) → mo wb w0 := by
  intro n
  induction n with
  | zero => intro a0 x1 x2 x3 w hm h; cases h
  | succ n ih =>
    intro a0 x1 x2 x3 w hm h
    exact kX6_number_b25  (fun a0 x1 x2 x3 w h hm => ih a0 x1 x2 x3 w hm h) hm h
theorem kX6_number {r0 : Int32} {w0 : Wd} {a0 : Nat} {x1 : Int32} {x2 : Int32} {w : Wd} (h : fX6_number a0 x1 x2 w = some (r0, w0)) : mo w w0 := by
  have hm := mo_rf w
  unfold fX6_number at h
  replace h := lt_inv h; obtain ⟨w_1, ew_2, h⟩ := h
  have hm := mo_eI hm ew_2
  replace h := bd_inv h; obtain ⟨y_5, hcl_4, h⟩ := h
  by_cases hc_7 : y_5 = 0
  · rw [if_pos hc_7] at h
    replace h := bd_inv h; obtain ⟨w_9, hcl_8, h⟩ := h
    have hm := hm.tr (kX6_tears hcl_8)
    exact kX6_number_l25 1000 a0 x1 x2 0 w_9 hm h
  · rw [if_neg hc_7] at h
    exact kX6_number_l25 1000 a0 x1 x2 0 w_1 hm h
theorem vX6_number_b108 {x : CT} (hx : CX x cX6_number RX6 rmX6_number (some .int)) {r0 : Int32} {w0 : Wd} (hq : RI x rmX6_number r0 w0) {x3 : Int32} {w : Wd} (h : fX6_number_b108 x3 w = some (r0, w0)) : V x 108 [none, none, none, some (.int x3)] [] (Rp (xD x) w) 0 0 := by
  unfold fX6_number_b108 at h
  refine v_iload_n (pc' := 109) hx dX6_number_108 rfl rfl ?_
  exact v_iret hx hq (by decide) (by decide) dX6_number_109 (by cases h; rfl)
theorem vX6_number_b87 {x : CT} (hx : CX x cX6_number RX6 rmX6_number (some .int)) {r0 : Int32} {w0 : Wd} (hq : RI x rmX6_number r0 w0) {a0 : Nat} {x2 : Int32} {x3 : Int32} {w : Wd} (hl0 : zL w 6 a0 = true) (h : fX6_number_b87 a0 x2 x3 w = some (r0, w0)) : V x 87 [some (.ref a0), none, some (.int x2), some (.int x3)] [] (Rp (xD x) w) 0 0 := by
  unfold fX6_number_b87 at h
  refine v_aload_n (pc' := 88) hx dX6_number_87 rfl rfl ?_
  refine v_getI (pc' := 91) hx hl0 fi_6_16.1 fi_6_16.2.1 fk_X6_88 dX6_number_88 rfl ?_
  refine v_iconst (pc' := 92) (v := (-1)) hx dX6_number_91 (by decide) rfl ?_
  refine v_icmp_ne (tgt := 108) (pc' := 95) hx dX6_number_92 (by decide) rfl (fun hc_1 => ?_) (fun hc_1 => ?_)
  · rw [if_neg hc_1] at h
    refine V.sb (L' := [none, none, none, some (.int x3)]) ⟨Or.inl rfl, Or.inl rfl, Or.inl rfl, Or.inr rfl, trivial⟩ ?_
    exact vX6_number_b108 hx hq h
  · rw [if_pos hc_1] at h
    refine v_iload_n (pc' := 96) hx dX6_number_95 rfl rfl ?_
    refine v_iload_n (pc' := 97) hx dX6_number_96 rfl rfl ?_
    refine v_icmp_le (tgt := 108) (pc' := 100) hx dX6_number_97 (by decide) rfl (fun hc_2 => ?_) (fun hc_2 => ?_)
    · rw [if_pos hc_2] at h
      refine V.sb (L' := [none, none, none, some (.int x3)]) ⟨Or.inl rfl, Or.inl rfl, Or.inl rfl, Or.inr rfl, trivial⟩ ?_
      exact vX6_number_b108 hx hq h
    · rw [if_neg hc_2] at h
      refine v_aload_n (pc' := 101) hx dX6_number_100 rfl rfl ?_
      refine v_aload_n (pc' := 102) hx dX6_number_101 rfl rfl ?_
      refine v_getI (pc' := 105) hx hl0 fi_6_17.1 fi_6_17.2.1 fk_X6_91 dX6_number_102 rfl ?_
      replace h := bd_inv h; obtain ⟨w_4, hcl_3, h⟩ := h
      refine v_wf (fun hwf_5 => ?_)
      refine v_callVv (pc' := 108) (w' := w_4) (ci := 6) (b := a0) (As := [.int (zI w 6 a0 17 0)]) (rest := []) hx hl0 (fun G sz hR => ctX6_tears (xl x) (xD x) w G sz hR a0 (zI w 6 a0 17 0) hl0 hcl_3) rfl my_X6_tears ml_X6_98 ⟨by decide, by decide⟩ ⟨by decide, by decide⟩ rfl rfl (Nat.le_of_ble_eq_true rfl) dX6_number_105 rfl ?_
      have hm_7 := kX6_tears hcl_3 hwf_5
      have hl_8 : zL w_4 6 a0 = true := (hm_7.2 _ _ hl0).1
      refine V.sb (L' := [none, none, none, some (.int x3)]) ⟨Or.inl rfl, Or.inl rfl, Or.inl rfl, Or.inr rfl, trivial⟩ ?_
      exact vX6_number_b108 hx hq h
theorem vX6_number_b61 {x : CT} (hx : CX x cX6_number RX6 rmX6_number (some .int)) {r0 : Int32} {w0 : Wd} (hq : RI x rmX6_number r0 w0) {rec25 : Nat → Int32 → Int32 → Int32 → Wd → Option (Int32 × Wd)} {a0 : Nat} {x1 : Int32} {x2 : Int32} {x3 : Int32} {w : Wd} (hrec25 : ∀ (a0 : Nat) (x1 : Int32) (x2 : Int32) (x3 : Int32) (w : Wd), rec25 a0 x1 x2 x3 w = some (r0, w0) → (zL w 6 a0 = true) → V x 25 [some (.ref a0), some (.int x1), some (.int x2), some (.int x3)] [] (Rp (xD x) w) 0 0) (hl0 : zL w 6 a0 = true) (h : fX6_number_b61 rec25 a0 x1 x2 x3 w = some (r0, w0)) : V x 61 [some (.ref a0), some (.int x1), some (.int x2), some (.int x3)] [] (Rp (xD x) w) 0 0 := by
  unfold fX6_number_b61 at h
  refine v_bipush (pc' := 63) (v := 10) hx dX6_number_61 (by decide) rfl ?_
  refine v_iload_n (pc' := 64) hx dX6_number_63 rfl rfl ?_
  refine v_imul (pc' := 65) hx dX6_number_64 rfl ?_
  refine v_aload_n (pc' := 66) hx dX6_number_65 rfl rfl ?_
  replace h := bd_inv h; obtain ⟨y_2, hcl_1, h⟩ := h
  refine v_callVi (pc' := 69) (w' := w) (r := y_2) (ci := 6) (b := a0) (As := []) (rest := [.int (10 * x3)]) hx hl0 (fun G sz hR => ctX6_here (xl x) (xD x) w G sz hR a0 hl0 hcl_1) rfl my_X6_here ml_X6_80 ⟨by decide, by decide⟩ ⟨by decide, by decide⟩ rfl rfl (Nat.le_of_ble_eq_true rfl) dX6_number_66 rfl ?_
  refine v_iadd (pc' := 70) hx dX6_number_69 rfl ?_
  refine v_bipush (pc' := 72) (v := 48) hx dX6_number_70 (by decide) rfl ?_
  refine v_isub (pc' := 73) hx dX6_number_72 rfl ?_
  refine v_istore_n (pc' := 74) (L' := [some (.ref a0), some (.int x1), some (.int x2), some (.int (((10 * x3) + y_2) - 48))]) hx dX6_number_73 rfl rfl (Nat.le_of_ble_eq_true rfl) ?_
  refine v_aload_n (pc' := 75) hx dX6_number_74 rfl rfl ?_
  refine v_dup (pc' := 76) hx dX6_number_75 rfl rfl ?_
  refine v_getI (pc' := 79) hx hl0 fi_6_14.1 fi_6_14.2.1 fk_X6_74 dX6_number_76 rfl ?_
  refine v_iconst (pc' := 80) (v := 1) hx dX6_number_79 (by decide) rfl ?_
  refine v_iadd (pc' := 81) hx dX6_number_80 rfl ?_
  refine v_putI (pc' := 84) hx hl0 fi_6_14.1 fi_6_14.2.1 fi_6_14.2.2 fk_X6_74 dX6_number_81 rfl ?_
  replace h := lt_inv h; obtain ⟨w_4, ew_5, h⟩ := h
  rw [← ew_5]
  have hl_6 : zL w_4 6 a0 = true := by rw [ew_5]; exact hl0
  refine v_goto (tgt := 25) hx dX6_number_84 (by decide) ?_
  exact hrec25 a0 x1 x2 (((10 * x3) + y_2) - 48) w_4 h hl_6
theorem vX6_number_b25 {x : CT} (hx : CX x cX6_number RX6 rmX6_number (some .int)) {r0 : Int32} {w0 : Wd} (hq : RI x rmX6_number r0 w0) {rec25 : Nat → Int32 → Int32 → Int32 → Wd → Option (Int32 × Wd)} {a0 : Nat} {x1 : Int32} {x2 : Int32} {x3 : Int32} {w : Wd} (hrec25 : ∀ (a0 : Nat) (x1 : Int32) (x2 : Int32) (x3 : Int32) (w : Wd), rec25 a0 x1 x2 x3 w = some (r0, w0) → (zL w 6 a0 = true) → V x 25 [some (.ref a0), some (.int x1), some (.int x2), some (.int x3)] [] (Rp (xD x) w) 0 0) (hl0 : zL w 6 a0 = true) (h : fX6_number_b25 rec25 a0 x1 x2 x3 w = some (r0, w0)) : V x 25 [some (.ref a0), some (.int x1), some (.int x2), some (.int x3)] [] (Rp (xD x) w) 0 0 := by
  unfold fX6_number_b25 at h
  refine v_aload_n (pc' := 26) hx dX6_number_25 rfl rfl ?_
  refine v_getI (pc' := 29) hx hl0 fi_6_16.1 fi_6_16.2.1 fk_X6_88 dX6_number_26 rfl ?_
  refine v_iconst (pc' := 30) (v := (-1)) hx dX6_number_29 (by decide) rfl ?_
  refine v_icmp_ne (tgt := 87) (pc' := 33) hx dX6_number_30 (by decide) rfl (fun hc_1 => ?_) (fun hc_1 => ?_)
  · rw [if_neg hc_1] at h
    refine V.sb (L' := [some (.ref a0), none, some (.int x2), some (.int x3)]) ⟨Or.inr rfl, Or.inl rfl, Or.inr rfl, Or.inr rfl, trivial⟩ ?_
    exact vX6_number_b87 hx hq hl0 h
  · rw [if_pos hc_1] at h
    refine v_aload_n (pc' := 34) hx dX6_number_33 rfl rfl ?_
    replace h := bd_inv h; obtain ⟨y_3, hcl_2, h⟩ := h
    refine v_callVi (pc' := 37) (w' := w) (r := y_3) (ci := 6) (b := a0) (As := []) (rest := []) hx hl0 (fun G sz hR => ctX6_seesDigit (xl x) (xD x) w G sz hR a0 hl0 hcl_2) rfl my_X6_seesDigit ml_X6_94 ⟨by decide, by decide⟩ ⟨by decide, by decide⟩ rfl rfl (Nat.le_of_ble_eq_true rfl) dX6_number_34 rfl ?_
    refine v_if_eq (tgt := 87) (pc' := 40) hx dX6_number_37 (by decide) rfl (fun hc_5 => ?_) (fun hc_5 => ?_)
    · rw [if_pos hc_5] at h
      refine V.sb (L' := [some (.ref a0), none, some (.int x2), some (.int x3)]) ⟨Or.inr rfl, Or.inl rfl, Or.inr rfl, Or.inr rfl, trivial⟩ ?_
      exact vX6_number_b87 hx hq hl0 h
    · rw [if_neg hc_5] at h
      refine v_aload_n (pc' := 41) hx dX6_number_40 rfl rfl ?_
      refine v_getI (pc' := 44) hx hl0 fi_6_14.1 fi_6_14.2.1 fk_X6_74 dX6_number_41 rfl ?_
      refine v_aload_n (pc' := 45) hx dX6_number_44 rfl rfl ?_
      refine v_getI (pc' := 48) hx hl0 fi_6_17.1 fi_6_17.2.1 fk_X6_91 dX6_number_45 rfl ?_
      refine v_iload_n (pc' := 49) hx dX6_number_48 rfl rfl ?_
      refine v_iadd (pc' := 50) hx dX6_number_49 rfl ?_
      refine v_icmp_ne (tgt := 61) (pc' := 53) hx dX6_number_50 (by decide) rfl (fun hc_6 => ?_) (fun hc_6 => ?_)
      · rw [if_neg hc_6] at h
        exact vX6_number_b61 hx hq hrec25 hl0 h
      · rw [if_pos hc_6] at h
        refine v_aload_n (pc' := 54) hx dX6_number_53 rfl rfl ?_
        refine v_aload_n (pc' := 55) hx dX6_number_54 rfl rfl ?_
        refine v_getI (pc' := 58) hx hl0 fi_6_14.1 fi_6_14.2.1 fk_X6_74 dX6_number_55 rfl ?_
        replace h := bd_inv h; obtain ⟨w_8, hcl_7, h⟩ := h
        refine v_wf (fun hwf_9 => ?_)
        refine v_callVv (pc' := 61) (w' := w_8) (ci := 6) (b := a0) (As := [.int (zI w 6 a0 14 0)]) (rest := []) hx hl0 (fun G sz hR => ctX6_tears (xl x) (xD x) w G sz hR a0 (zI w 6 a0 14 0) hl0 hcl_7) rfl my_X6_tears ml_X6_98 ⟨by decide, by decide⟩ ⟨by decide, by decide⟩ rfl rfl (Nat.le_of_ble_eq_true rfl) dX6_number_58 rfl ?_
        have hm_11 := kX6_tears hcl_7 hwf_9
        have hl_12 : zL w_8 6 a0 = true := (hm_11.2 _ _ hl0).1
        exact vX6_number_b61 hx hq hrec25 hl_12 h
theorem vX6_number_l25 {x : CT} (hx : CX x cX6_number RX6 rmX6_number (some .int)) {r0 : Int32} {w0 : Wd} (hq : RI x rmX6_number r0 w0) : ∀ (n : Nat) (a0 : Nat) (x1 : Int32) (x2 : Int32) (x3 : Int32) (w : Wd), (zL w 6 a0 = true) → fX6_number_l25  n a0 x1 x2 x3 w = some (r0, w0) → V x 25 [some (.ref a0), some (.int x1), some (.int x2), some (.int x3)] [] (Rp (xD x) w) 0 0 := by
  intro n
  induction n with
  | zero => intro a0 x1 x2 x3 w hl0 h; cases h
  | succ n ih =>
    intro a0 x1 x2 x3 w hl0 h
    exact vX6_number_b25 hx hq  (fun a0 x1 x2 x3 w h hl0 => ih a0 x1 x2 x3 w hl0 h) hl0 h
theorem vX6_number {x : CT} (hx : CX x cX6_number RX6 rmX6_number (some .int)) {r0 : Int32} {w0 : Wd} {w : Wd} (hq : RI x rmX6_number r0 w0) (a0 : Nat) (x1 : Int32) (x2 : Int32) (hl0 : zL w 6 a0 = true) (h : fX6_number a0 x1 x2 w = some (r0, w0)) : V x 0 [some (.ref a0), some (.int x1), some (.int x2), none] [] (Rp (xD x) w) 0 0 := by
  unfold fX6_number at h
  refine v_aload_n (pc' := 1) hx dX6_number_0 rfl rfl ?_
  refine v_aload_n (pc' := 2) hx dX6_number_1 rfl rfl ?_
  refine v_getI (pc' := 5) hx hl0 fi_6_14.1 fi_6_14.2.1 fk_X6_74 dX6_number_2 rfl ?_
  refine v_putI (pc' := 8) hx hl0 fi_6_17.1 fi_6_17.2.1 fi_6_17.2.2 fk_X6_91 dX6_number_5 rfl ?_
  replace h := lt_inv h; obtain ⟨w_1, ew_2, h⟩ := h
  rw [← ew_2]
  have hl_3 : zL w_1 6 a0 = true := by rw [ew_2]; exact hl0
  refine v_iconst (pc' := 9) (v := 0) hx dX6_number_8 (by decide) rfl ?_
  refine v_istore_n (pc' := 10) (L' := [some (.ref a0), some (.int x1), some (.int x2), some (.int 0)]) hx dX6_number_9 rfl rfl (Nat.le_of_ble_eq_true rfl) ?_
  refine v_aload_n (pc' := 11) hx dX6_number_10 rfl rfl ?_
  replace h := bd_inv h; obtain ⟨y_5, hcl_4, h⟩ := h
  refine v_callVi (pc' := 14) (w' := w_1) (r := y_5) (ci := 6) (b := a0) (As := []) (rest := []) hx hl_3 (fun G sz hR => ctX6_seesDigit (xl x) (xD x) w_1 G sz hR a0 hl_3 hcl_4) rfl my_X6_seesDigit ml_X6_94 ⟨by decide, by decide⟩ ⟨by decide, by decide⟩ rfl rfl (Nat.le_of_ble_eq_true rfl) dX6_number_11 rfl ?_
  refine v_if_ne (tgt := 25) (pc' := 17) hx dX6_number_14 (by decide) rfl (fun hc_7 => ?_) (fun hc_7 => ?_)
  · rw [if_neg hc_7] at h
    exact vX6_number_l25 hx hq 1000 a0 x1 x2 0 w_1 hl_3 h
  · rw [if_pos hc_7] at h
    refine v_aload_n (pc' := 18) hx dX6_number_17 rfl rfl ?_
    refine v_aload_n (pc' := 19) hx dX6_number_18 rfl rfl ?_
    refine v_getI (pc' := 22) hx hl_3 fi_6_14.1 fi_6_14.2.1 fk_X6_74 dX6_number_19 rfl ?_
    replace h := bd_inv h; obtain ⟨w_9, hcl_8, h⟩ := h
    refine v_wf (fun hwf_10 => ?_)
    refine v_callVv (pc' := 25) (w' := w_9) (ci := 6) (b := a0) (As := [.int (zI w_1 6 a0 14 0)]) (rest := []) hx hl_3 (fun G sz hR => ctX6_tears (xl x) (xD x) w_1 G sz hR a0 (zI w_1 6 a0 14 0) hl_3 hcl_8) rfl my_X6_tears ml_X6_98 ⟨by decide, by decide⟩ ⟨by decide, by decide⟩ rfl rfl (Nat.le_of_ble_eq_true rfl) dX6_number_22 rfl ?_
    have hm_12 := kX6_tears hcl_8 hwf_10
    have hl_13 : zL w_9 6 a0 = true := (hm_12.2 _ _ hl_3).1
    exact vX6_number_l25 hx hq 1000 a0 x1 x2 0 w_9 hl_13 h
theorem ctX6_number (l : Launch) (D : DD) (w : Wd) (G : GT) (sz : Nat) (hR : Rp D w G sz) (a0 : Nat) (x1 : Int32) (x2 : Int32) (hl0 : zL w 6 a0 = true) {r0 : Int32} {w0 : Wd} (h : fX6_number a0 x1 x2 w = some (r0, w0)) : MetI l yX6_number (WS yX6_number cX6_number 4 (some .int)) rmX6_number D [.ref a0, .int x1, .int x2] G sz r0 w0 := by
  refine MetI_ofV (own := RX6) (P := Rp D w) hR (by decide) rfl (by simp [Value.category]) (Nat.le_of_ble_eq_true rfl) (fun x hx hq hD hl => ?_)
  subst hD
  exact vX6_number hx hq a0 x1 x2 hl0 h
