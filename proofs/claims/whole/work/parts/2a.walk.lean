theorem kX4_append_b46 {w0 : Wd} {w wb : Wd} (hm : mo wb w) (h : fX4_append_b46 w = some w0) : mo wb w0 := by
  unfold fX4_append_b46 at h
  cases h; exact hm
theorem kX4_append_b3 {w0 : Wd} {rec3 : Nat → Int32 → Int32 → Wd → Option (Wd)} {a0 : Nat} {x1 : Int32} {x2 : Int32} {w wb : Wd} (hkr3 : ∀ (a0 : Nat) (x1 : Int32) (x2 : Int32) (w : Wd), rec3 a0 x1 x2 w = some w0 → mo wb w → mo wb w0) (hm : mo wb w) (h : fX4_append_b3 rec3 a0 x1 x2 w = some w0) : mo wb w0 := by
  unfold fX4_append_b3 at h
  by_cases hc_1 : x2 < 0
  · rw [if_pos hc_1] at h
    exact kX4_append_b46 hm h
  · rw [if_neg hc_1] at h
    by_cases hc_2 : 300 ≤ (zI w 4 a0 1 0)
    · rw [if_pos hc_2] at h
      exact kX4_append_b46 hm h
    · rw [if_neg hc_2] at h
      replace h := ckp_inv h; obtain ⟨hk_5, h⟩ := h
      replace h := lt_inv h; obtain ⟨w_6, ew_7, h⟩ := h
      have hm := mo_eI hm ew_7
      replace h := lt_inv h; obtain ⟨w_9, ew_10, h⟩ := h
      have hm := mo_eI hm ew_10
      exact hkr3 a0 x1 (x2 + (-8)) w_9 h hm
theorem kX4_append_l3 {w0 : Wd} {wb : Wd} : ∀ (n : Nat) (a0 : Nat) (x1 : Int32) (x2 : Int32) (w : Wd), mo wb w → fX4_append_l3  n a0 x1 x2 w = some w0 → mo wb w0 := by
  intro n
  induction n with
  | zero => intro a0 x1 x2 w hm h; cases h
  | succ n ih =>
    intro a0 x1 x2 w hm h
    exact kX4_append_b3  (fun a0 x1 x2 w h hm => ih a0 x1 x2 w hm h) hm h
theorem kX4_append {w0 : Wd} {a0 : Nat} {x1 : Int32} {w : Wd} (h : fX4_append a0 x1 w = some w0) : mo w w0 := by
  have hm := mo_rf w
  unfold fX4_append at h
  exact kX4_append_l3 1000 a0 x1 24 w hm h
theorem vX4_append_b46 {x : CT} (hx : CX x cX4_append RX4 rmX4_append none) {w0 : Wd} (hq : RV x rmX4_append w0) {w : Wd} (h : fX4_append_b46 w = some w0) : V x 46 [none, none, none] [] (Rp (xD x) w) 0 0 := by
  unfold fX4_append_b46 at h
  exact v_vret hx hq (by decide) (by decide) dX4_append_46 (by cases h; rfl)
theorem vX4_append_b3 {x : CT} (hx : CX x cX4_append RX4 rmX4_append none) {w0 : Wd} (hq : RV x rmX4_append w0) {rec3 : Nat → Int32 → Int32 → Wd → Option (Wd)} {a0 : Nat} {x1 : Int32} {x2 : Int32} {w : Wd} (hrec3 : ∀ (a0 : Nat) (x1 : Int32) (x2 : Int32) (w : Wd), rec3 a0 x1 x2 w = some w0 → (zL w 4 a0 = true) → V x 3 [some (.ref a0), some (.int x1), some (.int x2)] [] (Rp (xD x) w) 0 0) (hl0 : zL w 4 a0 = true) (h : fX4_append_b3 rec3 a0 x1 x2 w = some w0) : V x 3 [some (.ref a0), some (.int x1), some (.int x2)] [] (Rp (xD x) w) 0 0 := by
  unfold fX4_append_b3 at h
  refine v_iload_n (pc' := 4) hx dX4_append_3 rfl rfl ?_
  refine v_if_lt (tgt := 46) (pc' := 7) hx dX4_append_4 (by decide) rfl (fun hc_1 => ?_) (fun hc_1 => ?_)
  · rw [if_pos hc_1] at h
    refine V.sb (L' := [none, none, none]) ⟨Or.inl rfl, Or.inl rfl, Or.inl rfl, trivial⟩ ?_
    exact vX4_append_b46 hx hq h
  · rw [if_neg hc_1] at h
    refine v_aload_n (pc' := 8) hx dX4_append_7 rfl rfl ?_
    refine v_getI (pc' := 11) hx hl0 fi_4_1.1 fi_4_1.2.1 fk_X4_15 dX4_append_8 rfl ?_
    refine v_sipush (pc' := 14) (v := 300) hx dX4_append_11 (by decide) rfl ?_
    refine v_icmp_ge (tgt := 46) (pc' := 17) hx dX4_append_14 (by decide) rfl (fun hc_2 => ?_) (fun hc_2 => ?_)
    · rw [if_pos hc_2] at h
      refine V.sb (L' := [none, none, none]) ⟨Or.inl rfl, Or.inl rfl, Or.inl rfl, trivial⟩ ?_
      exact vX4_append_b46 hx hq h
    · rw [if_neg hc_2] at h
      refine v_aload_n (pc' := 18) hx dX4_append_17 rfl rfl ?_
      obtain ⟨g_3, hq_4⟩ : ∃ q, zA w 4 a0 0 = q := ⟨_, rfl⟩
      refine v_getAq (pc' := 21) hx hl0 fi_4_0.1 (by decide) hq_4 fk_X4_9 dX4_append_18 rfl ?_
      refine v_aload_n (pc' := 22) hx dX4_append_21 rfl rfl ?_
      refine v_getI (pc' := 25) hx hl0 fi_4_1.1 fi_4_1.2.1 fk_X4_15 dX4_append_22 rfl ?_
      refine v_iload_n (pc' := 26) hx dX4_append_25 rfl rfl ?_
      refine v_iload_n (pc' := 27) hx dX4_append_26 rfl rfl ?_
      refine v_ishr (pc' := 28) hx dX4_append_27 rfl ?_
      refine v_i2b (pc' := 29) hx dX4_append_28 rfl ?_
      replace h := ckp_inv h; obtain ⟨hk_5, h⟩ := h
      refine v_bastq (pc' := 30) hx hl0 fi_4_0.1 fi_4_0.2.1 rfl hk_5 hq_4 dX4_append_29 rfl ?_
      replace h := lt_inv h; obtain ⟨w_6, ew_7, h⟩ := h
      rw [← ew_7]
      have hl_8 : zL w_6 4 a0 = true := by rw [ew_7]; exact hl0
      refine v_aload_n (pc' := 31) hx dX4_append_30 rfl rfl ?_
      refine v_dup (pc' := 32) hx dX4_append_31 rfl rfl ?_
      refine v_getI (pc' := 35) hx hl_8 fi_4_1.1 fi_4_1.2.1 fk_X4_15 dX4_append_32 rfl ?_
      refine v_iconst (pc' := 36) (v := 1) hx dX4_append_35 (by decide) rfl ?_
      refine v_iadd (pc' := 37) hx dX4_append_36 rfl ?_
      refine v_putI (pc' := 40) hx hl_8 fi_4_1.1 fi_4_1.2.1 fi_4_1.2.2 fk_X4_15 dX4_append_37 rfl ?_
      replace h := lt_inv h; obtain ⟨w_9, ew_10, h⟩ := h
      rw [← ew_10]
      have hl_11 : zL w_9 4 a0 = true := by rw [ew_10]; exact hl_8
      refine v_iinc (pc' := 43) (w0 := (x2 + (-8))) (L' := [some (.ref a0), some (.int x1), some (.int (x2 + (-8)))]) hx dX4_append_40 rfl rfl rfl rfl ?_
      refine v_goto (tgt := 3) hx dX4_append_43 (by decide) ?_
      exact hrec3 a0 x1 (x2 + (-8)) w_9 h hl_11
theorem vX4_append_l3 {x : CT} (hx : CX x cX4_append RX4 rmX4_append none) {w0 : Wd} (hq : RV x rmX4_append w0) : ∀ (n : Nat) (a0 : Nat) (x1 : Int32) (x2 : Int32) (w : Wd), (zL w 4 a0 = true) → fX4_append_l3  n a0 x1 x2 w = some w0 → V x 3 [some (.ref a0), some (.int x1), some (.int x2)] [] (Rp (xD x) w) 0 0 := by
  intro n
  induction n with
  | zero => intro a0 x1 x2 w hl0 h; cases h
  | succ n ih =>
    intro a0 x1 x2 w hl0 h
    exact vX4_append_b3 hx hq  (fun a0 x1 x2 w h hl0 => ih a0 x1 x2 w hl0 h) hl0 h
theorem vX4_append {x : CT} (hx : CX x cX4_append RX4 rmX4_append none) {w0 : Wd} {w : Wd} (hq : RV x rmX4_append w0) (a0 : Nat) (x1 : Int32) (hl0 : zL w 4 a0 = true) (h : fX4_append a0 x1 w = some w0) : V x 0 [some (.ref a0), some (.int x1), none] [] (Rp (xD x) w) 0 0 := by
  unfold fX4_append at h
  refine v_bipush (pc' := 2) (v := 24) hx dX4_append_0 (by decide) rfl ?_
  refine v_istore_n (pc' := 3) (L' := [some (.ref a0), some (.int x1), some (.int 24)]) hx dX4_append_2 rfl rfl (Nat.le_of_ble_eq_true rfl) ?_
  exact vX4_append_l3 hx hq 1000 a0 x1 24 w hl0 h
theorem ctX4_append (l : Launch) (D : DD) (w : Wd) (G : GT) (sz : Nat) (hR : Rp D w G sz) (a0 : Nat) (x1 : Int32) (hl0 : zL w 4 a0 = true) {w0 : Wd} (h : fX4_append a0 x1 w = some w0) : MetV l yX4_append (WS yX4_append cX4_append 3 none) rmX4_append D [.ref a0, .int x1] G sz w0 := by
  refine MetV_ofV (own := RX4) (P := Rp D w) hR (by decide) rfl (by simp [Value.category]) (Nat.le_of_ble_eq_true rfl) (fun x hx hq hD hl => ?_)
  subst hD
  exact vX4_append hx hq a0 x1 hl0 h
theorem kX5_feed {r0 : Int32} {w0 : Wd} {a0 : Nat} {x1 : Int32} {x2 : Int32} {x3 : Int32} {x4 : Int32} {x5 : Int32} {w : Wd} (h : fX5_feed a0 x1 x2 x3 x4 x5 w = some (r0, w0)) : mo w w0 := by
  have hm := mo_rf w
  unfold fX5_feed at h
  replace h := lt_inv h; obtain ⟨u_1, er_2, h⟩ := h
  replace h := nn_inv h; obtain ⟨b_5, rfl, h⟩ := h
  by_cases hc_7 : (zI w 4 b_5 1 0) ≤ 280
  · rw [if_pos hc_7] at h
    replace h := lt_inv h; obtain ⟨u_8, er_9, h⟩ := h
    replace h := nn_inv h; obtain ⟨b_12, rfl, h⟩ := h
    replace h := bd_inv h; obtain ⟨w_15, hcl_14, h⟩ := h
    have hm := hm.tr (kX4_append hcl_14)
    replace h := lt_inv h; obtain ⟨u_20, er_21, h⟩ := h
    replace h := nn_inv h; obtain ⟨b_24, rfl, h⟩ := h
    replace h := bd_inv h; obtain ⟨w_27, hcl_26, h⟩ := h
    have hm := hm.tr (kX4_append hcl_26)
    replace h := lt_inv h; obtain ⟨u_31, er_32, h⟩ := h
    replace h := nn_inv h; obtain ⟨b_35, rfl, h⟩ := h
    replace h := bd_inv h; obtain ⟨w_38, hcl_37, h⟩ := h
    have hm := hm.tr (kX4_append hcl_37)
    replace h := lt_inv h; obtain ⟨u_42, er_43, h⟩ := h
    replace h := nn_inv h; obtain ⟨b_46, rfl, h⟩ := h
    replace h := bd_inv h; obtain ⟨w_49, hcl_48, h⟩ := h
    have hm := hm.tr (kX4_append hcl_48)
    replace h := lt_inv h; obtain ⟨u_53, er_54, h⟩ := h
    replace h := nn_inv h; obtain ⟨b_57, rfl, h⟩ := h
    replace h := bd_inv h; obtain ⟨w_60, hcl_59, h⟩ := h
    have hm := hm.tr (kX4_append hcl_59)
    replace h := lt_inv h; obtain ⟨u_64, er_65, h⟩ := h
    replace h := nn_inv h; obtain ⟨b_68, rfl, h⟩ := h
    cases h; exact hm
  · rw [if_neg hc_7] at h
    cases h; exact hm
theorem vX5_feed {x : CT} (hx : CX x cX5_feed RX5 rmX5_feed (some .int)) {r0 : Int32} {w0 : Wd} {w : Wd} (hq : RI x rmX5_feed r0 w0) (a0 : Nat) (x1 : Int32) (x2 : Int32) (x3 : Int32) (x4 : Int32) (x5 : Int32) (hl0 : zL w 5 a0 = true) (h : fX5_feed a0 x1 x2 x3 x4 x5 w = some (r0, w0)) : V x 0 [some (.ref a0), some (.int x1), some (.int x2), some (.int x3), some (.int x4), some (.int x5)] [] (Rp (xD x) w) 0 0 := by
  unfold fX5_feed at h
  refine v_aload_n (pc' := 1) hx dX5_feed_0 rfl rfl ?_
  refine v_getR (pc' := 4) hx hl0 fi_5_0.1 fi_5_0.2.1 fk_X5_10 dX5_feed_1 rfl ?_
  replace h := lt_inv h; obtain ⟨u_1, er_2, h⟩ := h
  rw [← er_2]
  refine v_liv hl0 (fun ht_3 => ?_)
  have hl_4 : ∀ b, u_1 = some b → zL w 4 b = true := fun b hb => ht_3 0 _ b (er_2.symm.trans hb)
  replace h := nn_inv h; obtain ⟨b_5, rfl, h⟩ := h
  have hl_6 : zL w 4 b_5 = true := hl_4 _ rfl
  refine v_getI (pc' := 7) hx hl_6 fi_4_1.1 fi_4_1.2.1 fk_X5_39 dX5_feed_4 rfl ?_
  refine v_sipush (pc' := 10) (v := 280) hx dX5_feed_7 (by decide) rfl ?_
  refine v_icmp_le (tgt := 15) (pc' := 13) hx dX5_feed_10 (by decide) rfl (fun hc_7 => ?_) (fun hc_7 => ?_)
  · rw [if_pos hc_7] at h
    refine v_aload_n (pc' := 16) hx dX5_feed_15 rfl rfl ?_
    refine v_getR (pc' := 19) hx hl0 fi_5_0.1 fi_5_0.2.1 fk_X5_10 dX5_feed_16 rfl ?_
    replace h := lt_inv h; obtain ⟨u_8, er_9, h⟩ := h
    rw [← er_9]
    refine v_liv hl0 (fun ht_10 => ?_)
    have hl_11 : ∀ b, u_8 = some b → zL w 4 b = true := fun b hb => ht_10 0 _ b (er_9.symm.trans hb)
    refine v_iload_n (pc' := 20) hx dX5_feed_19 rfl rfl ?_
    replace h := nn_inv h; obtain ⟨b_12, rfl, h⟩ := h
    have hl_13 : zL w 4 b_12 = true := hl_11 _ rfl
    replace h := bd_inv h; obtain ⟨w_15, hcl_14, h⟩ := h
    refine v_wf (fun hwf_16 => ?_)
    refine v_callVv (pc' := 23) (w' := w_15) (ci := 4) (b := b_12) (As := [.int x1]) (rest := []) hx hl_13 (fun G sz hR => ctX4_append (xl x) (xD x) w G sz hR b_12 x1 hl_13 hcl_14) rfl my_X4_append ml_X5_42 ⟨by decide, by decide⟩ ⟨by decide, by decide⟩ rfl rfl (Nat.le_of_ble_eq_true rfl) dX5_feed_20 rfl ?_
    have hm_18 := kX4_append hcl_14 hwf_16
    have hl_19 : zL w_15 5 a0 = true := (hm_18.2 _ _ hl0).1
    refine v_aload_n (pc' := 24) hx dX5_feed_23 rfl rfl ?_
    refine v_getR (pc' := 27) hx hl_19 fi_5_0.1 fi_5_0.2.1 fk_X5_10 dX5_feed_24 rfl ?_
    replace h := lt_inv h; obtain ⟨u_20, er_21, h⟩ := h
    rw [← er_21]
    refine v_liv hl_19 (fun ht_22 => ?_)
    have hl_23 : ∀ b, u_20 = some b → zL w_15 4 b = true := fun b hb => ht_22 0 _ b (er_21.symm.trans hb)
    refine v_iload_n (pc' := 28) hx dX5_feed_27 rfl rfl ?_
    replace h := nn_inv h; obtain ⟨b_24, rfl, h⟩ := h
    have hl_25 : zL w_15 4 b_24 = true := hl_23 _ rfl
    replace h := bd_inv h; obtain ⟨w_27, hcl_26, h⟩ := h
    refine v_callVv (pc' := 31) (w' := w_27) (ci := 4) (b := b_24) (As := [.int x2]) (rest := []) hx hl_25 (fun G sz hR => ctX4_append (xl x) (xD x) w_15 G sz hR b_24 x2 hl_25 hcl_26) rfl my_X4_append ml_X5_42 ⟨by decide, by decide⟩ ⟨by decide, by decide⟩ rfl rfl (Nat.le_of_ble_eq_true rfl) dX5_feed_28 rfl ?_
    have hm_29 := kX4_append hcl_26 hm_18.1
    have hl_30 : zL w_27 5 a0 = true := (hm_29.2 _ _ hl_19).1
    refine v_aload_n (pc' := 32) hx dX5_feed_31 rfl rfl ?_
    refine v_getR (pc' := 35) hx hl_30 fi_5_0.1 fi_5_0.2.1 fk_X5_10 dX5_feed_32 rfl ?_
    replace h := lt_inv h; obtain ⟨u_31, er_32, h⟩ := h
    rw [← er_32]
    refine v_liv hl_30 (fun ht_33 => ?_)
    have hl_34 : ∀ b, u_31 = some b → zL w_27 4 b = true := fun b hb => ht_33 0 _ b (er_32.symm.trans hb)
    refine v_iload_n (pc' := 36) hx dX5_feed_35 rfl rfl ?_
    replace h := nn_inv h; obtain ⟨b_35, rfl, h⟩ := h
    have hl_36 : zL w_27 4 b_35 = true := hl_34 _ rfl
    replace h := bd_inv h; obtain ⟨w_38, hcl_37, h⟩ := h
    refine v_callVv (pc' := 39) (w' := w_38) (ci := 4) (b := b_35) (As := [.int x3]) (rest := []) hx hl_36 (fun G sz hR => ctX4_append (xl x) (xD x) w_27 G sz hR b_35 x3 hl_36 hcl_37) rfl my_X4_append ml_X5_42 ⟨by decide, by decide⟩ ⟨by decide, by decide⟩ rfl rfl (Nat.le_of_ble_eq_true rfl) dX5_feed_36 rfl ?_
    have hm_40 := kX4_append hcl_37 hm_29.1
    have hl_41 : zL w_38 5 a0 = true := (hm_40.2 _ _ hl_30).1
    refine v_aload_n (pc' := 40) hx dX5_feed_39 rfl rfl ?_
    refine v_getR (pc' := 43) hx hl_41 fi_5_0.1 fi_5_0.2.1 fk_X5_10 dX5_feed_40 rfl ?_
    replace h := lt_inv h; obtain ⟨u_42, er_43, h⟩ := h
    rw [← er_43]
    refine v_liv hl_41 (fun ht_44 => ?_)
    have hl_45 : ∀ b, u_42 = some b → zL w_38 4 b = true := fun b hb => ht_44 0 _ b (er_43.symm.trans hb)
    refine v_iload (pc' := 45) hx dX5_feed_43 rfl rfl ?_
    replace h := nn_inv h; obtain ⟨b_46, rfl, h⟩ := h
    have hl_47 : zL w_38 4 b_46 = true := hl_45 _ rfl
    replace h := bd_inv h; obtain ⟨w_49, hcl_48, h⟩ := h
    refine v_callVv (pc' := 48) (w' := w_49) (ci := 4) (b := b_46) (As := [.int x4]) (rest := []) hx hl_47 (fun G sz hR => ctX4_append (xl x) (xD x) w_38 G sz hR b_46 x4 hl_47 hcl_48) rfl my_X4_append ml_X5_42 ⟨by decide, by decide⟩ ⟨by decide, by decide⟩ rfl rfl (Nat.le_of_ble_eq_true rfl) dX5_feed_45 rfl ?_
    have hm_51 := kX4_append hcl_48 hm_40.1
    have hl_52 : zL w_49 5 a0 = true := (hm_51.2 _ _ hl_41).1
    refine v_aload_n (pc' := 49) hx dX5_feed_48 rfl rfl ?_
    refine v_getR (pc' := 52) hx hl_52 fi_5_0.1 fi_5_0.2.1 fk_X5_10 dX5_feed_49 rfl ?_
    replace h := lt_inv h; obtain ⟨u_53, er_54, h⟩ := h
    rw [← er_54]
    refine v_liv hl_52 (fun ht_55 => ?_)
    have hl_56 : ∀ b, u_53 = some b → zL w_49 4 b = true := fun b hb => ht_55 0 _ b (er_54.symm.trans hb)
    refine v_iload (pc' := 54) hx dX5_feed_52 rfl rfl ?_
    replace h := nn_inv h; obtain ⟨b_57, rfl, h⟩ := h
    have hl_58 : zL w_49 4 b_57 = true := hl_56 _ rfl
    replace h := bd_inv h; obtain ⟨w_60, hcl_59, h⟩ := h
    refine v_callVv (pc' := 57) (w' := w_60) (ci := 4) (b := b_57) (As := [.int x5]) (rest := []) hx hl_58 (fun G sz hR => ctX4_append (xl x) (xD x) w_49 G sz hR b_57 x5 hl_58 hcl_59) rfl my_X4_append ml_X5_42 ⟨by decide, by decide⟩ ⟨by decide, by decide⟩ rfl rfl (Nat.le_of_ble_eq_true rfl) dX5_feed_54 rfl ?_
    have hm_62 := kX4_append hcl_59 hm_51.1
    have hl_63 : zL w_60 5 a0 = true := (hm_62.2 _ _ hl_52).1
    refine v_aload_n (pc' := 58) hx dX5_feed_57 rfl rfl ?_
    refine v_getR (pc' := 61) hx hl_63 fi_5_0.1 fi_5_0.2.1 fk_X5_10 dX5_feed_58 rfl ?_
    replace h := lt_inv h; obtain ⟨u_64, er_65, h⟩ := h
    rw [← er_65]
    refine v_liv hl_63 (fun ht_66 => ?_)
    have hl_67 : ∀ b, u_64 = some b → zL w_60 4 b = true := fun b hb => ht_66 0 _ b (er_65.symm.trans hb)
    replace h := nn_inv h; obtain ⟨b_68, rfl, h⟩ := h
    have hl_69 : zL w_60 4 b_68 = true := hl_67 _ rfl
    refine v_getI (pc' := 64) hx hl_69 fi_4_1.1 fi_4_1.2.1 fk_X5_39 dX5_feed_61 rfl ?_
    exact v_iret hx hq (by decide) (by decide) dX5_feed_64 (by cases h; rfl)
  · rw [if_neg hc_7] at h
    refine v_iconst (pc' := 14) (v := (-1)) hx dX5_feed_13 (by decide) rfl ?_
    exact v_iret hx hq (by decide) (by decide) dX5_feed_14 (by cases h; rfl)
theorem ctX5_feed (l : Launch) (D : DD) (w : Wd) (G : GT) (sz : Nat) (hR : Rp D w G sz) (a0 : Nat) (x1 : Int32) (x2 : Int32) (x3 : Int32) (x4 : Int32) (x5 : Int32) (hl0 : zL w 5 a0 = true) {r0 : Int32} {w0 : Wd} (h : fX5_feed a0 x1 x2 x3 x4 x5 w = some (r0, w0)) : MetI l yX5_feed (WS yX5_feed cX5_feed 6 (some .int)) rmX5_feed D [.ref a0, .int x1, .int x2, .int x3, .int x4, .int x5] G sz r0 w0 := by
  refine MetI_ofV (own := RX5) (P := Rp D w) hR (by decide) rfl (by simp [Value.category]) (Nat.le_of_ble_eq_true rfl) (fun x hx hq hD hl => ?_)
  subst hD
  exact vX5_feed hx hq a0 x1 x2 x3 x4 x5 hl0 h
theorem kX6_push_b3 {w0 : Wd} {rec3 : Nat → Int32 → Int32 → Wd → Option (Wd)} {a0 : Nat} {x1 : Int32} {x2 : Int32} {w wb : Wd} (hkr3 : ∀ (a0 : Nat) (x1 : Int32) (x2 : Int32) (w : Wd), rec3 a0 x1 x2 w = some w0 → mo wb w → mo wb w0) (hm : mo wb w) (h : fX6_push_b3 rec3 a0 x1 x2 w = some w0) : mo wb w0 := by
  unfold fX6_push_b3 at h
  by_cases hc_1 : x2 < 0
  · rw [if_pos hc_1] at h
    cases h; exact hm
  · rw [if_neg hc_1] at h
    replace h := ckp_inv h; obtain ⟨hk_4, h⟩ := h
    replace h := lt_inv h; obtain ⟨w_5, ew_6, h⟩ := h
    have hm := mo_eI hm ew_6
    replace h := lt_inv h; obtain ⟨w_8, ew_9, h⟩ := h
    have hm := mo_eI hm ew_9
    exact hkr3 a0 x1 (x2 + (-8)) w_8 h hm
theorem kX6_push_l3 {w0 : Wd} {wb : Wd} : ∀ (n : Nat) (a0 : Nat) (x1 : Int32) (x2 : Int32) (w : Wd), mo wb w → fX6_push_l3  n a0 x1 x2 w = some w0 → mo wb w0 := by
  intro n
  induction n with
  | zero => intro a0 x1 x2 w hm h; cases h
  | succ n ih =>
    intro a0 x1 x2 w hm h
    exact kX6_push_b3  (fun a0 x1 x2 w h hm => ih a0 x1 x2 w hm h) hm h
theorem kX6_push {w0 : Wd} {a0 : Nat} {x1 : Int32} {w : Wd} (h : fX6_push a0 x1 w = some w0) : mo w w0 := by
  have hm := mo_rf w
  unfold fX6_push at h
  exact kX6_push_l3 1000 a0 x1 24 w hm h
theorem vX6_push_b3 {x : CT} (hx : CX x cX6_push RX6 rmX6_push none) {w0 : Wd} (hq : RV x rmX6_push w0) {rec3 : Nat → Int32 → Int32 → Wd → Option (Wd)} {a0 : Nat} {x1 : Int32} {x2 : Int32} {w : Wd} (hrec3 : ∀ (a0 : Nat) (x1 : Int32) (x2 : Int32) (w : Wd), rec3 a0 x1 x2 w = some w0 → (zL w 6 a0 = true) → V x 3 [some (.ref a0), some (.int x1), some (.int x2)] [] (Rp (xD x) w) 0 0) (hl0 : zL w 6 a0 = true) (h : fX6_push_b3 rec3 a0 x1 x2 w = some w0) : V x 3 [some (.ref a0), some (.int x1), some (.int x2)] [] (Rp (xD x) w) 0 0 := by
  unfold fX6_push_b3 at h
  refine v_iload_n (pc' := 4) hx dX6_push_3 rfl rfl ?_
  refine v_if_lt (tgt := 36) (pc' := 7) hx dX6_push_4 (by decide) rfl (fun hc_1 => ?_) (fun hc_1 => ?_)
  · rw [if_pos hc_1] at h
    exact v_vret hx hq (by decide) (by decide) dX6_push_36 (by cases h; rfl)
  · rw [if_neg hc_1] at h
    refine v_aload_n (pc' := 8) hx dX6_push_7 rfl rfl ?_
    obtain ⟨g_2, hq_3⟩ : ∃ q, zA w 6 a0 0 = q := ⟨_, rfl⟩
    refine v_getAq (pc' := 11) hx hl0 fi_6_0.1 (by decide) hq_3 fk_X6_7 dX6_push_8 rfl ?_
    refine v_aload_n (pc' := 12) hx dX6_push_11 rfl rfl ?_
    refine v_getI (pc' := 15) hx hl0 fi_6_1.1 fi_6_1.2.1 fk_X6_67 dX6_push_12 rfl ?_
    refine v_iload_n (pc' := 16) hx dX6_push_15 rfl rfl ?_
    refine v_iload_n (pc' := 17) hx dX6_push_16 rfl rfl ?_
    refine v_ishr (pc' := 18) hx dX6_push_17 rfl ?_
    refine v_i2b (pc' := 19) hx dX6_push_18 rfl ?_
    replace h := ckp_inv h; obtain ⟨hk_4, h⟩ := h
    refine v_bastq (pc' := 20) hx hl0 fi_6_0.1 fi_6_0.2.1 rfl hk_4 hq_3 dX6_push_19 rfl ?_
    replace h := lt_inv h; obtain ⟨w_5, ew_6, h⟩ := h
    rw [← ew_6]
    have hl_7 : zL w_5 6 a0 = true := by rw [ew_6]; exact hl0
    refine v_aload_n (pc' := 21) hx dX6_push_20 rfl rfl ?_
    refine v_dup (pc' := 22) hx dX6_push_21 rfl rfl ?_
    refine v_getI (pc' := 25) hx hl_7 fi_6_1.1 fi_6_1.2.1 fk_X6_67 dX6_push_22 rfl ?_
    refine v_iconst (pc' := 26) (v := 1) hx dX6_push_25 (by decide) rfl ?_
    refine v_iadd (pc' := 27) hx dX6_push_26 rfl ?_
    refine v_putI (pc' := 30) hx hl_7 fi_6_1.1 fi_6_1.2.1 fi_6_1.2.2 fk_X6_67 dX6_push_27 rfl ?_
    replace h := lt_inv h; obtain ⟨w_8, ew_9, h⟩ := h
    rw [← ew_9]
    have hl_10 : zL w_8 6 a0 = true := by rw [ew_9]; exact hl_7
    refine v_iinc (pc' := 33) (w0 := (x2 + (-8))) (L' := [some (.ref a0), some (.int x1), some (.int (x2 + (-8)))]) hx dX6_push_30 rfl rfl rfl rfl ?_
    refine v_goto (tgt := 3) hx dX6_push_33 (by decide) ?_
    exact hrec3 a0 x1 (x2 + (-8)) w_8 h hl_10
theorem vX6_push_l3 {x : CT} (hx : CX x cX6_push RX6 rmX6_push none) {w0 : Wd} (hq : RV x rmX6_push w0) : ∀ (n : Nat) (a0 : Nat) (x1 : Int32) (x2 : Int32) (w : Wd), (zL w 6 a0 = true) → fX6_push_l3  n a0 x1 x2 w = some w0 → V x 3 [some (.ref a0), some (.int x1), some (.int x2)] [] (Rp (xD x) w) 0 0 := by
  intro n
  induction n with
  | zero => intro a0 x1 x2 w hl0 h; cases h
  | succ n ih =>
    intro a0 x1 x2 w hl0 h
    exact vX6_push_b3 hx hq  (fun a0 x1 x2 w h hl0 => ih a0 x1 x2 w hl0 h) hl0 h
theorem vX6_push {x : CT} (hx : CX x cX6_push RX6 rmX6_push none) {w0 : Wd} {w : Wd} (hq : RV x rmX6_push w0) (a0 : Nat) (x1 : Int32) (hl0 : zL w 6 a0 = true) (h : fX6_push a0 x1 w = some w0) : V x 0 [some (.ref a0), some (.int x1), none] [] (Rp (xD x) w) 0 0 := by
  unfold fX6_push at h
  refine v_bipush (pc' := 2) (v := 24) hx dX6_push_0 (by decide) rfl ?_
  refine v_istore_n (pc' := 3) (L' := [some (.ref a0), some (.int x1), some (.int 24)]) hx dX6_push_2 rfl rfl (Nat.le_of_ble_eq_true rfl) ?_
  exact vX6_push_l3 hx hq 1000 a0 x1 24 w hl0 h
theorem ctX6_push (l : Launch) (D : DD) (w : Wd) (G : GT) (sz : Nat) (hR : Rp D w G sz) (a0 : Nat) (x1 : Int32) (hl0 : zL w 6 a0 = true) {w0 : Wd} (h : fX6_push a0 x1 w = some w0) : MetV l yX6_push (WS yX6_push cX6_push 3 none) rmX6_push D [.ref a0, .int x1] G sz w0 := by
  refine MetV_ofV (own := RX6) (P := Rp D w) hR (by decide) rfl (by simp [Value.category]) (Nat.le_of_ble_eq_true rfl) (fun x hx hq hD hl => ?_)
  subst hD
  exact vX6_push hx hq a0 x1 hl0 h
theorem kX6_feed {r0 : Int32} {w0 : Wd} {a0 : Nat} {x1 : Int32} {x2 : Int32} {x3 : Int32} {x4 : Int32} {x5 : Int32} {w : Wd} (h : fX6_feed a0 x1 x2 x3 x4 x5 w = some (r0, w0)) : mo w w0 := by
  have hm := mo_rf w
  unfold fX6_feed at h
  by_cases hc_1 : ((zI w 6 a0 1 0) + 20) ≤ 300
  · rw [if_pos hc_1] at h
    replace h := bd_inv h; obtain ⟨w_3, hcl_2, h⟩ := h
    have hm := hm.tr (kX6_push hcl_2)
    replace h := bd_inv h; obtain ⟨w_9, hcl_8, h⟩ := h
    have hm := hm.tr (kX6_push hcl_8)
    replace h := bd_inv h; obtain ⟨w_14, hcl_13, h⟩ := h
    have hm := hm.tr (kX6_push hcl_13)
    replace h := bd_inv h; obtain ⟨w_19, hcl_18, h⟩ := h
    have hm := hm.tr (kX6_push hcl_18)
    replace h := bd_inv h; obtain ⟨w_24, hcl_23, h⟩ := h
    have hm := hm.tr (kX6_push hcl_23)
    cases h; exact hm
  · rw [if_neg hc_1] at h
    cases h; exact hm
theorem vX6_feed {x : CT} (hx : CX x cX6_feed RX6 rmX6_feed (some .int)) {r0 : Int32} {w0 : Wd} {w : Wd} (hq : RI x rmX6_feed r0 w0) (a0 : Nat) (x1 : Int32) (x2 : Int32) (x3 : Int32) (x4 : Int32) (x5 : Int32) (hl0 : zL w 6 a0 = true) (h : fX6_feed a0 x1 x2 x3 x4 x5 w = some (r0, w0)) : V x 0 [some (.ref a0), some (.int x1), some (.int x2), some (.int x3), some (.int x4), some (.int x5)] [] (Rp (xD x) w) 0 0 := by
  unfold fX6_feed at h
  refine v_aload_n (pc' := 1) hx dX6_feed_0 rfl rfl ?_
  refine v_getI (pc' := 4) hx hl0 fi_6_1.1 fi_6_1.2.1 fk_X6_67 dX6_feed_1 rfl ?_
  refine v_bipush (pc' := 6) (v := 20) hx dX6_feed_4 (by decide) rfl ?_
  refine v_iadd (pc' := 7) hx dX6_feed_6 rfl ?_
  refine v_sipush (pc' := 10) (v := 300) hx dX6_feed_7 (by decide) rfl ?_
  refine v_icmp_le (tgt := 15) (pc' := 13) hx dX6_feed_10 (by decide) rfl (fun hc_1 => ?_) (fun hc_1 => ?_)
  · rw [if_pos hc_1] at h
    refine v_aload_n (pc' := 16) hx dX6_feed_15 rfl rfl ?_
    refine v_iload_n (pc' := 17) hx dX6_feed_16 rfl rfl ?_
    replace h := bd_inv h; obtain ⟨w_3, hcl_2, h⟩ := h
    refine v_wf (fun hwf_4 => ?_)
    refine v_callVv (pc' := 20) (w' := w_3) (ci := 6) (b := a0) (As := [.int x1]) (rest := []) hx hl0 (fun G sz hR => ctX6_push (xl x) (xD x) w G sz hR a0 x1 hl0 hcl_2) rfl my_X6_push ml_X6_70 ⟨by decide, by decide⟩ ⟨by decide, by decide⟩ rfl rfl (Nat.le_of_ble_eq_true rfl) dX6_feed_17 rfl ?_
    have hm_6 := kX6_push hcl_2 hwf_4
    have hl_7 : zL w_3 6 a0 = true := (hm_6.2 _ _ hl0).1
    refine v_aload_n (pc' := 21) hx dX6_feed_20 rfl rfl ?_
    refine v_iload_n (pc' := 22) hx dX6_feed_21 rfl rfl ?_
    replace h := bd_inv h; obtain ⟨w_9, hcl_8, h⟩ := h
    refine v_callVv (pc' := 25) (w' := w_9) (ci := 6) (b := a0) (As := [.int x2]) (rest := []) hx hl_7 (fun G sz hR => ctX6_push (xl x) (xD x) w_3 G sz hR a0 x2 hl_7 hcl_8) rfl my_X6_push ml_X6_70 ⟨by decide, by decide⟩ ⟨by decide, by decide⟩ rfl rfl (Nat.le_of_ble_eq_true rfl) dX6_feed_22 rfl ?_
    have hm_11 := kX6_push hcl_8 hm_6.1
    have hl_12 : zL w_9 6 a0 = true := (hm_11.2 _ _ hl_7).1
    refine v_aload_n (pc' := 26) hx dX6_feed_25 rfl rfl ?_
    refine v_iload_n (pc' := 27) hx dX6_feed_26 rfl rfl ?_
    replace h := bd_inv h; obtain ⟨w_14, hcl_13, h⟩ := h
    refine v_callVv (pc' := 30) (w' := w_14) (ci := 6) (b := a0) (As := [.int x3]) (rest := []) hx hl_12 (fun G sz hR => ctX6_push (xl x) (xD x) w_9 G sz hR a0 x3 hl_12 hcl_13) rfl my_X6_push ml_X6_70 ⟨by decide, by decide⟩ ⟨by decide, by decide⟩ rfl rfl (Nat.le_of_ble_eq_true rfl) dX6_feed_27 rfl ?_
    have hm_16 := kX6_push hcl_13 hm_11.1
    have hl_17 : zL w_14 6 a0 = true := (hm_16.2 _ _ hl_12).1
    refine v_aload_n (pc' := 31) hx dX6_feed_30 rfl rfl ?_
    refine v_iload (pc' := 33) hx dX6_feed_31 rfl rfl ?_
    replace h := bd_inv h; obtain ⟨w_19, hcl_18, h⟩ := h
    refine v_callVv (pc' := 36) (w' := w_19) (ci := 6) (b := a0) (As := [.int x4]) (rest := []) hx hl_17 (fun G sz hR => ctX6_push (xl x) (xD x) w_14 G sz hR a0 x4 hl_17 hcl_18) rfl my_X6_push ml_X6_70 ⟨by decide, by decide⟩ ⟨by decide, by decide⟩ rfl rfl (Nat.le_of_ble_eq_true rfl) dX6_feed_33 rfl ?_
    have hm_21 := kX6_push hcl_18 hm_16.1
    have hl_22 : zL w_19 6 a0 = true := (hm_21.2 _ _ hl_17).1
    refine v_aload_n (pc' := 37) hx dX6_feed_36 rfl rfl ?_
    refine v_iload (pc' := 39) hx dX6_feed_37 rfl rfl ?_
    replace h := bd_inv h; obtain ⟨w_24, hcl_23, h⟩ := h
    refine v_callVv (pc' := 42) (w' := w_24) (ci := 6) (b := a0) (As := [.int x5]) (rest := []) hx hl_22 (fun G sz hR => ctX6_push (xl x) (xD x) w_19 G sz hR a0 x5 hl_22 hcl_23) rfl my_X6_push ml_X6_70 ⟨by decide, by decide⟩ ⟨by decide, by decide⟩ rfl rfl (Nat.le_of_ble_eq_true rfl) dX6_feed_39 rfl ?_
    have hm_26 := kX6_push hcl_23 hm_21.1
    have hl_27 : zL w_24 6 a0 = true := (hm_26.2 _ _ hl_22).1
    refine v_aload_n (pc' := 43) hx dX6_feed_42 rfl rfl ?_
    refine v_getI (pc' := 46) hx hl_27 fi_6_1.1 fi_6_1.2.1 fk_X6_67 dX6_feed_43 rfl ?_
    exact v_iret hx hq (by decide) (by decide) dX6_feed_46 (by cases h; rfl)
  · rw [if_neg hc_1] at h
    refine v_iconst (pc' := 14) (v := (-1)) hx dX6_feed_13 (by decide) rfl ?_
    exact v_iret hx hq (by decide) (by decide) dX6_feed_14 (by cases h; rfl)
theorem ctX6_feed (l : Launch) (D : DD) (w : Wd) (G : GT) (sz : Nat) (hR : Rp D w G sz) (a0 : Nat) (x1 : Int32) (x2 : Int32) (x3 : Int32) (x4 : Int32) (x5 : Int32) (hl0 : zL w 6 a0 = true) {r0 : Int32} {w0 : Wd} (h : fX6_feed a0 x1 x2 x3 x4 x5 w = some (r0, w0)) : MetI l yX6_feed (WS yX6_feed cX6_feed 6 (some .int)) rmX6_feed D [.ref a0, .int x1, .int x2, .int x3, .int x4, .int x5] G sz r0 w0 := by
  refine MetI_ofV (own := RX6) (P := Rp D w) hR (by decide) rfl (by simp [Value.category]) (Nat.le_of_ble_eq_true rfl) (fun x hx hq hD hl => ?_)
  subst hD
  exact vX6_feed hx hq a0 x1 x2 x3 x4 x5 hl0 h
theorem vJ9_min_7cf53_b10 {x : CT} (hx : CX x cJ9_min_7cf53 RJ9 rmJ9_min_7cf53 (some .int)) {r0 : Int32} {w : Wd} (hq : RI x rmJ9_min_7cf53 r0 w) {xs0 : Int32} (h : fJ9_min_7cf53_b10 w xs0 = some r0) : V x 10 [none, none] [.int xs0] (Rp (xD x) w) 0 0 := by
  unfold fJ9_min_7cf53_b10 at h
  exact v_iret hx hq (by decide) (by decide) dJ9_min_7cf53_10 (by cases h; rfl)
theorem vJ9_min_7cf53 {x : CT} (hx : CX x cJ9_min_7cf53 RJ9 rmJ9_min_7cf53 (some .int)) {r0 : Int32} {w : Wd} (hq : RI x rmJ9_min_7cf53 r0 w) (x0 : Int32) (x1 : Int32) (h : fJ9_min_7cf53 x0 x1 w = some r0) : V x 0 [some (.int x0), some (.int x1)] [] (Rp (xD x) w) 0 0 := by
  unfold fJ9_min_7cf53 at h
  refine v_iload_n (pc' := 1) hx dJ9_min_7cf53_0 rfl rfl ?_
  refine v_iload_n (pc' := 2) hx dJ9_min_7cf53_1 rfl rfl ?_
  refine v_icmp_gt (tgt := 9) (pc' := 5) hx dJ9_min_7cf53_2 (by decide) rfl (fun hc_1 => ?_) (fun hc_1 => ?_)
  · rw [if_pos hc_1] at h
    refine v_iload_n (pc' := 10) hx dJ9_min_7cf53_9 rfl rfl ?_
    refine V.sb (L' := [none, none]) ⟨Or.inl rfl, Or.inl rfl, trivial⟩ ?_
    exact vJ9_min_7cf53_b10 hx hq h
  · rw [if_neg hc_1] at h
    refine v_iload_n (pc' := 6) hx dJ9_min_7cf53_5 rfl rfl ?_
    refine v_goto (tgt := 10) hx dJ9_min_7cf53_6 (by decide) ?_
    refine V.sb (L' := [none, none]) ⟨Or.inl rfl, Or.inl rfl, trivial⟩ ?_
    exact vJ9_min_7cf53_b10 hx hq h
theorem ctJ9_min_7cf53 (l : Launch) (D : DD) (w : Wd) (G : GT) (sz : Nat) (hR : Rp D w G sz) (x0 : Int32) (x1 : Int32) {r0 : Int32} (h : fJ9_min_7cf53 x0 x1 w = some r0) : MetI l yJ9_min_7cf53 (WS yJ9_min_7cf53 cJ9_min_7cf53 2 (some .int)) rmJ9_min_7cf53 D [.int x0, .int x1] G sz r0 w := by
  refine MetI_ofVF (own := RJ9) (P := Rp D w) hR (by decide +kernel) rfl (by simp [Value.category]) (Nat.le_of_ble_eq_true rfl) (fun x hx hq hD hl => ?_)
  subst hD
  exact vJ9_min_7cf53 hx hq x0 x1  h
theorem kX4_openText {w0 : Wd} {a0 : Nat} {x1 : Int32} {w : Wd} (h : fX4_openText a0 x1 w = some w0) : mo w w0 := by
  have hm := mo_rf w
  unfold fX4_openText at h
  replace h := bd_inv h; obtain ⟨y_2, hcl_1, h⟩ := h
  replace h := lt_inv h; obtain ⟨w_4, ew_5, h⟩ := h
  have hm := mo_eI hm ew_5
  replace h := lt_inv h; obtain ⟨w_7, ew_8, h⟩ := h
  have hm := mo_eI hm ew_8
  replace h := lt_inv h; obtain ⟨w_10, ew_11, h⟩ := h
  have hm := mo_eI hm ew_11
  cases h; exact hm
theorem vX4_openText {x : CT} (hx : CX x cX4_openText RX4 rmX4_openText none) {w0 : Wd} {w : Wd} (hq : RV x rmX4_openText w0) (a0 : Nat) (x1 : Int32) (hl0 : zL w 4 a0 = true) (h : fX4_openText a0 x1 w = some w0) : V x 0 [some (.ref a0), some (.int x1)] [] (Rp (xD x) w) 0 0 := by
  unfold fX4_openText at h
  refine v_aload_n (pc' := 1) hx dX4_openText_0 rfl rfl ?_
  refine v_iload_n (pc' := 2) hx dX4_openText_1 rfl rfl ?_
  refine v_sipush (pc' := 5) (v := 300) hx dX4_openText_2 (by decide) rfl ?_
  replace h := bd_inv h; obtain ⟨y_2, hcl_1, h⟩ := h
  refine v_callSi (pc' := 8) (w' := w) (r := y_2) (As := [.int x1, .int 300]) (rest := [.ref a0]) hx (fun G sz hR => ctJ9_min_7cf53 (xl x) (xD x) w G sz hR x1 300  hcl_1) my_J9_min_7cf53 ml_X4_19 ⟨by decide, by decide⟩ ⟨by decide, by decide⟩ rfl rfl (Nat.le_of_ble_eq_true rfl) dX4_openText_5 rfl ?_
  refine v_putI (pc' := 11) hx hl0 fi_4_2.1 fi_4_2.2.1 fi_4_2.2.2 fk_X4_25 dX4_openText_8 rfl ?_
  replace h := lt_inv h; obtain ⟨w_4, ew_5, h⟩ := h
  rw [← ew_5]
  have hl_6 : zL w_4 4 a0 = true := by rw [ew_5]; exact hl0
  refine v_aload_n (pc' := 12) hx dX4_openText_11 rfl rfl ?_
  refine v_iconst (pc' := 13) (v := 0) hx dX4_openText_12 (by decide) rfl ?_
  refine v_putI (pc' := 16) hx hl_6 fi_4_3.1 fi_4_3.2.1 fi_4_3.2.2 fk_X4_28 dX4_openText_13 rfl ?_
  replace h := lt_inv h; obtain ⟨w_7, ew_8, h⟩ := h
  rw [← ew_8]
  have hl_9 : zL w_7 4 a0 = true := by rw [ew_8]; exact hl_6
  refine v_aload_n (pc' := 17) hx dX4_openText_16 rfl rfl ?_
  refine v_iconst (pc' := 18) (v := 0) hx dX4_openText_17 (by decide) rfl ?_
  refine v_putI (pc' := 21) hx hl_9 fi_4_1.1 fi_4_1.2.1 fi_4_1.2.2 fk_X4_15 dX4_openText_18 rfl ?_
  replace h := lt_inv h; obtain ⟨w_10, ew_11, h⟩ := h
  rw [← ew_11]
  have hl_12 : zL w_10 4 a0 = true := by rw [ew_11]; exact hl_9
  exact v_vret hx hq (by decide) (by decide) dX4_openText_21 (by cases h; rfl)
theorem ctX4_openText (l : Launch) (D : DD) (w : Wd) (G : GT) (sz : Nat) (hR : Rp D w G sz) (a0 : Nat) (x1 : Int32) (hl0 : zL w 4 a0 = true) {w0 : Wd} (h : fX4_openText a0 x1 w = some w0) : MetV l yX4_openText (WS yX4_openText cX4_openText 2 none) rmX4_openText D [.ref a0, .int x1] G sz w0 := by
  refine MetV_ofV (own := RX4) (P := Rp D w) hR (by decide) rfl (by simp [Value.category]) (Nat.le_of_ble_eq_true rfl) (fun x hx hq hD hl => ?_)
  subst hD
  exact vX4_openText hx hq a0 x1 hl0 h
theorem vX4_next_b35 {x : CT} (hx : CX x cX4_next RX4 rmX4_next (some .int)) {r0 : Int32} {w : Wd} (hq : RI x rmX4_next r0 w) {xs0 : Int32} (h : fX4_next_b35 w xs0 = some r0) : V x 35 [none] [.int xs0] (Rp (xD x) w) 0 0 := by
  unfold fX4_next_b35 at h
  exact v_iret hx hq (by decide) (by decide) dX4_next_35 (by cases h; rfl)
theorem vX4_next_b18 {x : CT} (hx : CX x cX4_next RX4 rmX4_next (some .int)) {r0 : Int32} {w : Wd} (hq : RI x rmX4_next r0 w) (h : fX4_next_b18 w = some r0) : V x 18 [none] [] (Rp (xD x) w) 0 0 := by
  unfold fX4_next_b18 at h
  refine v_iconst (pc' := 19) (v := (-1)) hx dX4_next_18 (by decide) rfl ?_
  refine v_goto (tgt := 35) hx dX4_next_19 (by decide) ?_
  exact vX4_next_b35 hx hq h
theorem vX4_next {x : CT} (hx : CX x cX4_next RX4 rmX4_next (some .int)) {r0 : Int32} {w : Wd} (hq : RI x rmX4_next r0 w) (a0 : Nat) (hl0 : zL w 4 a0 = true) (h : fX4_next a0 w = some r0) : V x 0 [some (.ref a0)] [] (Rp (xD x) w) 0 0 := by
  unfold fX4_next at h
  refine v_aload_n (pc' := 1) hx dX4_next_0 rfl rfl ?_
  refine v_getI (pc' := 4) hx hl0 fi_4_3.1 fi_4_3.2.1 fk_X4_28 dX4_next_1 rfl ?_
  refine v_if_lt (tgt := 18) (pc' := 7) hx dX4_next_4 (by decide) rfl (fun hc_1 => ?_) (fun hc_1 => ?_)
  · rw [if_pos hc_1] at h
    refine V.sb (L' := [none]) ⟨Or.inl rfl, trivial⟩ ?_
    exact vX4_next_b18 hx hq h
  · rw [if_neg hc_1] at h
    refine v_aload_n (pc' := 8) hx dX4_next_7 rfl rfl ?_
    refine v_getI (pc' := 11) hx hl0 fi_4_3.1 fi_4_3.2.1 fk_X4_28 dX4_next_8 rfl ?_
    refine v_aload_n (pc' := 12) hx dX4_next_11 rfl rfl ?_
    refine v_getI (pc' := 15) hx hl0 fi_4_2.1 fi_4_2.2.1 fk_X4_25 dX4_next_12 rfl ?_
    refine v_icmp_lt (tgt := 22) (pc' := 18) hx dX4_next_15 (by decide) rfl (fun hc_2 => ?_) (fun hc_2 => ?_)
    · rw [if_pos hc_2] at h
      refine v_aload_n (pc' := 23) hx dX4_next_22 rfl rfl ?_
      obtain ⟨g_3, hq_4⟩ : ∃ q, zA w 4 a0 0 = q := ⟨_, rfl⟩
      refine v_getAq (pc' := 26) hx hl0 fi_4_0.1 (by decide) hq_4 fk_X4_9 dX4_next_23 rfl ?_
      refine v_aload_n (pc' := 27) hx dX4_next_26 rfl rfl ?_
      refine v_getI (pc' := 30) hx hl0 fi_4_3.1 fi_4_3.2.1 fk_X4_28 dX4_next_27 rfl ?_
      replace h := ckp_inv h; obtain ⟨hk_5, h⟩ := h
      refine v_baldq (pc' := 31) hx hl0 fi_4_0.1 fi_4_0.2.1 rfl hk_5 hq_4 dX4_next_30 rfl ?_
      refine v_sipush (pc' := 34) (v := 255) hx dX4_next_31 (by decide) rfl ?_
      refine v_iand (pc' := 35) hx dX4_next_34 rfl ?_
      refine V.sb (L' := [none]) ⟨Or.inl rfl, trivial⟩ ?_
      exact vX4_next_b35 hx hq h
    · rw [if_neg hc_2] at h
      refine V.sb (L' := [none]) ⟨Or.inl rfl, trivial⟩ ?_
      exact vX4_next_b18 hx hq h
theorem ctX4_next (l : Launch) (D : DD) (w : Wd) (G : GT) (sz : Nat) (hR : Rp D w G sz) (a0 : Nat) (hl0 : zL w 4 a0 = true) {r0 : Int32} (h : fX4_next a0 w = some r0) : MetI l yX4_next (WS yX4_next cX4_next 1 (some .int)) rmX4_next D [.ref a0] G sz r0 w := by
  refine MetI_ofV (own := RX4) (P := Rp D w) hR (by decide) rfl (by simp [Value.category]) (Nat.le_of_ble_eq_true rfl) (fun x hx hq hD hl => ?_)
  subst hD
  exact vX4_next hx hq a0 hl0 h
theorem kX4_take {r0 : Int32} {w0 : Wd} {a0 : Nat} {x1 : Int32} {w : Wd} (h : fX4_take a0 x1 w = some (r0, w0)) : mo w w0 := by
  have hm := mo_rf w
  unfold fX4_take at h
  replace h := bd_inv h; obtain ⟨y_2, hcl_1, h⟩ := h
  by_cases hc_4 : y_2 = x1
  · rw [if_pos hc_4] at h
    replace h := lt_inv h; obtain ⟨w_5, ew_6, h⟩ := h
    have hm := mo_eI hm ew_6
    replace h := ckp_inv h; obtain ⟨hk_8, h⟩ := h
    cases h; exact hm
  · rw [if_neg hc_4] at h
    replace h := ckp_inv h; obtain ⟨hk_9, h⟩ := h
    cases h; exact hm
theorem vX4_take {x : CT} (hx : CX x cX4_take RX4 rmX4_take (some .boolean)) {r0 : Int32} {w0 : Wd} {w : Wd} (hq : RI x rmX4_take r0 w0) (a0 : Nat) (x1 : Int32) (hl0 : zL w 4 a0 = true) (h : fX4_take a0 x1 w = some (r0, w0)) : V x 0 [some (.ref a0), some (.int x1)] [] (Rp (xD x) w) 0 0 := by
  unfold fX4_take at h
  refine v_aload_n (pc' := 1) hx dX4_take_0 rfl rfl ?_
  replace h := bd_inv h; obtain ⟨y_2, hcl_1, h⟩ := h
  refine v_callVi (pc' := 4) (w' := w) (r := y_2) (ci := 4) (b := a0) (As := []) (rest := []) hx hl0 (fun G sz hR => ctX4_next (xl x) (xD x) w G sz hR a0 hl0 hcl_1) rfl my_X4_next ml_X4_31 ⟨by decide, by decide⟩ ⟨by decide, by decide⟩ rfl rfl (Nat.le_of_ble_eq_true rfl) dX4_take_1 rfl ?_
  refine v_iload_n (pc' := 5) hx dX4_take_4 rfl rfl ?_
  refine v_icmp_eq (tgt := 10) (pc' := 8) hx dX4_take_5 (by decide) rfl (fun hc_4 => ?_) (fun hc_4 => ?_)
  · rw [if_pos hc_4] at h
    refine v_aload_n (pc' := 11) hx dX4_take_10 rfl rfl ?_
    refine v_dup (pc' := 12) hx dX4_take_11 rfl rfl ?_
    refine v_getI (pc' := 15) hx hl0 fi_4_3.1 fi_4_3.2.1 fk_X4_28 dX4_take_12 rfl ?_
    refine v_iconst (pc' := 16) (v := 1) hx dX4_take_15 (by decide) rfl ?_
    refine v_iadd (pc' := 17) hx dX4_take_16 rfl ?_
    refine v_putI (pc' := 20) hx hl0 fi_4_3.1 fi_4_3.2.1 fi_4_3.2.2 fk_X4_28 dX4_take_17 rfl ?_
    replace h := lt_inv h; obtain ⟨w_5, ew_6, h⟩ := h
    rw [← ew_6]
    have hl_7 : zL w_5 4 a0 = true := by rw [ew_6]; exact hl0
    refine v_iconst (pc' := 21) (v := 1) hx dX4_take_20 (by decide) rfl ?_
    replace h := ckp_inv h; obtain ⟨hk_8, h⟩ := h
    exact v_zret hx hq (by decide) (by decide) dX4_take_21 hk_8 (by cases h; rfl)
  · rw [if_neg hc_4] at h
    refine v_iconst (pc' := 9) (v := 0) hx dX4_take_8 (by decide) rfl ?_
    replace h := ckp_inv h; obtain ⟨hk_9, h⟩ := h
    exact v_zret hx hq (by decide) (by decide) dX4_take_9 hk_9 (by cases h; rfl)
theorem ctX4_take (l : Launch) (D : DD) (w : Wd) (G : GT) (sz : Nat) (hR : Rp D w G sz) (a0 : Nat) (x1 : Int32) (hl0 : zL w 4 a0 = true) {r0 : Int32} {w0 : Wd} (h : fX4_take a0 x1 w = some (r0, w0)) : MetI l yX4_take (WS yX4_take cX4_take 2 (some .boolean)) rmX4_take D [.ref a0, .int x1] G sz r0 w0 := by
  refine MetI_ofV (own := RX4) (P := Rp D w) hR (by decide) rfl (by simp [Value.category]) (Nat.le_of_ble_eq_true rfl) (fun x hx hq hD hl => ?_)
  subst hD
  exact vX4_take hx hq a0 x1 hl0 h
theorem vX5_isDigit_b17 {x : CT} (hx : CX x cX5_isDigit RX5 rmX5_isDigit (some .boolean)) {r0 : Int32} {w : Wd} (hq : RI x rmX5_isDigit r0 w) {xs0 : Int32} (h : fX5_isDigit_b17 w xs0 = some r0) : V x 17 [none] [.int xs0] (Rp (xD x) w) 0 0 := by
  unfold fX5_isDigit_b17 at h
  replace h := ckp_inv h; obtain ⟨hk_1, h⟩ := h
  exact v_zret hx hq (by decide) (by decide) dX5_isDigit_17 hk_1 (by cases h; rfl)
theorem vX5_isDigit_b16 {x : CT} (hx : CX x cX5_isDigit RX5 rmX5_isDigit (some .boolean)) {r0 : Int32} {w : Wd} (hq : RI x rmX5_isDigit r0 w) (h : fX5_isDigit_b16 w = some r0) : V x 16 [none] [] (Rp (xD x) w) 0 0 := by
  unfold fX5_isDigit_b16 at h
  refine v_iconst (pc' := 17) (v := 0) hx dX5_isDigit_16 (by decide) rfl ?_
  exact vX5_isDigit_b17 hx hq h
theorem vX5_isDigit {x : CT} (hx : CX x cX5_isDigit RX5 rmX5_isDigit (some .boolean)) {r0 : Int32} {w : Wd} (hq : RI x rmX5_isDigit r0 w) (x0 : Int32) (h : fX5_isDigit x0 w = some r0) : V x 0 [some (.int x0)] [] (Rp (xD x) w) 0 0 := by
  unfold fX5_isDigit at h
  refine v_iload_n (pc' := 1) hx dX5_isDigit_0 rfl rfl ?_
  refine v_bipush (pc' := 3) (v := 48) hx dX5_isDigit_1 (by decide) rfl ?_
  refine v_icmp_lt (tgt := 16) (pc' := 6) hx dX5_isDigit_3 (by decide) rfl (fun hc_1 => ?_) (fun hc_1 => ?_)
  · rw [if_pos hc_1] at h
    refine V.sb (L' := [none]) ⟨Or.inl rfl, trivial⟩ ?_
    exact vX5_isDigit_b16 hx hq h
  · rw [if_neg hc_1] at h
    refine v_iload_n (pc' := 7) hx dX5_isDigit_6 rfl rfl ?_
    refine v_bipush (pc' := 9) (v := 57) hx dX5_isDigit_7 (by decide) rfl ?_
    refine v_icmp_gt (tgt := 16) (pc' := 12) hx dX5_isDigit_9 (by decide) rfl (fun hc_2 => ?_) (fun hc_2 => ?_)
    · rw [if_pos hc_2] at h
      refine V.sb (L' := [none]) ⟨Or.inl rfl, trivial⟩ ?_
      exact vX5_isDigit_b16 hx hq h
    · rw [if_neg hc_2] at h
      refine v_iconst (pc' := 13) (v := 1) hx dX5_isDigit_12 (by decide) rfl ?_
      refine v_goto (tgt := 17) hx dX5_isDigit_13 (by decide) ?_
      refine V.sb (L' := [none]) ⟨Or.inl rfl, trivial⟩ ?_
      exact vX5_isDigit_b17 hx hq h
theorem ctX5_isDigit (l : Launch) (D : DD) (w : Wd) (G : GT) (sz : Nat) (hR : Rp D w G sz) (x0 : Int32) {r0 : Int32} (h : fX5_isDigit x0 w = some r0) : MetI l yX5_isDigit (WS yX5_isDigit cX5_isDigit 1 (some .boolean)) rmX5_isDigit D [.int x0] G sz r0 w := by
  refine MetI_ofV (own := RX5) (P := Rp D w) hR (by decide) rfl (by simp [Value.category]) (Nat.le_of_ble_eq_true rfl) (fun x hx hq hD hl => ?_)
  subst hD
  exact vX5_isDigit hx hq x0  h
theorem kX4_tearAt {r0 : Int32} {w0 : Wd} {a0 : Nat} {x1 : Int32} {w : Wd} (h : fX4_tearAt a0 x1 w = some (r0, w0)) : mo w w0 := by
  have hm := mo_rf w
  unfold fX4_tearAt at h
  replace h := lt_inv h; obtain ⟨w_1, ew_2, h⟩ := h
  have hm := mo_eI hm ew_2
  cases h; exact hm
theorem vX4_tearAt {x : CT} (hx : CX x cX4_tearAt RX4 rmX4_tearAt (some .int)) {r0 : Int32} {w0 : Wd} {w : Wd} (hq : RI x rmX4_tearAt r0 w0) (a0 : Nat) (x1 : Int32) (hl0 : zL w 4 a0 = true) (h : fX4_tearAt a0 x1 w = some (r0, w0)) : V x 0 [some (.ref a0), some (.int x1)] [] (Rp (xD x) w) 0 0 := by
  unfold fX4_tearAt at h
  refine v_aload_n (pc' := 1) hx dX4_tearAt_0 rfl rfl ?_
  refine v_iload_n (pc' := 2) hx dX4_tearAt_1 rfl rfl ?_
  refine v_putI (pc' := 5) hx hl0 fi_4_3.1 fi_4_3.2.1 fi_4_3.2.2 fk_X4_28 dX4_tearAt_2 rfl ?_
  replace h := lt_inv h; obtain ⟨w_1, ew_2, h⟩ := h
  rw [← ew_2]
  have hl_3 : zL w_1 4 a0 = true := by rw [ew_2]; exact hl0
  refine v_iconst (pc' := 6) (v := (-1)) hx dX4_tearAt_5 (by decide) rfl ?_
  exact v_iret hx hq (by decide) (by decide) dX4_tearAt_6 (by cases h; rfl)
theorem ctX4_tearAt (l : Launch) (D : DD) (w : Wd) (G : GT) (sz : Nat) (hR : Rp D w G sz) (a0 : Nat) (x1 : Int32) (hl0 : zL w 4 a0 = true) {r0 : Int32} {w0 : Wd} (h : fX4_tearAt a0 x1 w = some (r0, w0)) : MetI l yX4_tearAt (WS yX4_tearAt cX4_tearAt 2 (some .int)) rmX4_tearAt D [.ref a0, .int x1] G sz r0 w0 := by
  refine MetI_ofV (own := RX4) (P := Rp D w) hR (by decide) rfl (by simp [Value.category]) (Nat.le_of_ble_eq_true rfl) (fun x hx hq hD hl => ?_)
  subst hD
  exact vX4_tearAt hx hq a0 x1 hl0 h
theorem kX4_takeNumber_b91 {r0 : Int32} {w0 : Wd} {xs0 : Int32} {w wb : Wd} (hm : mo wb w) (h : fX4_takeNumber_b91 xs0 w = some (r0, w0)) : mo wb w0 := by
  unfold fX4_takeNumber_b91 at h
  cases h; exact hm
theorem kX4_takeNumber_b73 {r0 : Int32} {w0 : Wd} {w wb : Wd} (hm : mo wb w) (h : fX4_takeNumber_b73 w = some (r0, w0)) : mo wb w0 := by
  unfold fX4_takeNumber_b73 at h
  cases h; exact hm
theorem kX4_takeNumber_b58 {r0 : Int32} {w0 : Wd} {a0 : Nat} {x2 : Int32} {x3 : Int32} {x4 : Int32} {x5 : Int32} {w wb : Wd} (hm : mo wb w) (h : fX4_takeNumber_b58 a0 x2 x3 x4 x5 w = some (r0, w0)) : mo wb w0 := by
  unfold fX4_takeNumber_b58 at h
  by_cases hc_1 : x5 = 0
  · rw [if_pos hc_1] at h
    exact kX4_takeNumber_b73 hm h
  · rw [if_neg hc_1] at h
    replace h := bd_inv h; obtain ⟨y_3, hcl_2, h⟩ := h
    replace h := bd_inv h; obtain ⟨y_6, hcl_5, h⟩ := h
    by_cases hc_8 : y_6 = 0
    · rw [if_pos hc_8] at h
      by_cases hc_9 : x4 ≤ x2
      · rw [if_pos hc_9] at h
        exact kX4_takeNumber_b91 hm h
      · rw [if_neg hc_9] at h
        replace h := bd2_inv h; obtain ⟨y_11, w_12, hcl_10, h⟩ := h
        have hm := hm.tr (kX4_tearAt hcl_10)
        exact kX4_takeNumber_b91 hm h
    · rw [if_neg hc_8] at h
      exact kX4_takeNumber_b73 hm h
theorem kX4_takeNumber_b11 {r0 : Int32} {w0 : Wd} {rec11 : Nat → Int32 → Int32 → Int32 → Int32 → Int32 → Wd → Option (Int32 × Wd)} {a0 : Nat} {x1 : Int32} {x2 : Int32} {x3 : Int32} {x4 : Int32} {x5 : Int32} {w wb : Wd} (hkr11 : ∀ (a0 : Nat) (x1 : Int32) (x2 : Int32) (x3 : Int32) (x4 : Int32) (x5 : Int32) (w : Wd), rec11 a0 x1 x2 x3 x4 x5 w = some (r0, w0) → mo wb w → mo wb w0) (hm : mo wb w) (h : fX4_takeNumber_b11 rec11 a0 x1 x2 x3 x4 x5 w = some (r0, w0)) : mo wb w0 := by
  unfold fX4_takeNumber_b11 at h
  by_cases hc_1 : x1 ≤ x5
  · rw [if_pos hc_1] at h
    exact kX4_takeNumber_b58 hm h
  · rw [if_neg hc_1] at h
    replace h := bd_inv h; obtain ⟨y_3, hcl_2, h⟩ := h
    replace h := bd_inv h; obtain ⟨y_6, hcl_5, h⟩ := h
    by_cases hc_8 : y_6 = 0
    · rw [if_pos hc_8] at h
      exact kX4_takeNumber_b58 hm h
    · rw [if_neg hc_8] at h
      replace h := bd_inv h; obtain ⟨y_10, hcl_9, h⟩ := h
      replace h := lt_inv h; obtain ⟨w_12, ew_13, h⟩ := h
      have hm := mo_eI hm ew_13
      exact hkr11 a0 x1 x2 x3 (((x4 * 10) + y_10) - 48) (x5 + 1) w_12 h hm
theorem kX4_takeNumber_l11 {r0 : Int32} {w0 : Wd} {wb : Wd} : ∀ (n : Nat) (a0 : Nat) (x1 : Int32) (x2 : Int32) (x3 : Int32) (x4 : Int32) (x5 : Int32) (w : Wd), mo wb w → fX4_takeNumber_l11  n a0 x1 x2 x3 x4 x5 w = some (r0, w0) → mo wb w0 := by
  intro n
  induction n with
  | zero => intro a0 x1 x2 x3 x4 x5 w hm h; cases h
  | succ n ih =>
    intro a0 x1 x2 x3 x4 x5 w hm h
    exact kX4_takeNumber_b11  (fun a0 x1 x2 x3 x4 x5 w h hm => ih a0 x1 x2 x3 x4 x5 w hm h) hm h
theorem kX4_takeNumber {r0 : Int32} {w0 : Wd} {a0 : Nat} {x1 : Int32} {x2 : Int32} {w : Wd} (h : fX4_takeNumber a0 x1 x2 w = some (r0, w0)) : mo w w0 := by
  have hm := mo_rf w
  unfold fX4_takeNumber at h
  exact kX4_takeNumber_l11 1000 a0 x1 x2 (zI w 4 a0 3 0) 0 0 w hm h
theorem vX4_takeNumber_b91 {x : CT} (hx : CX x cX4_takeNumber RX4 rmX4_takeNumber (some .int)) {r0 : Int32} {w0 : Wd} (hq : RI x rmX4_takeNumber r0 w0) {xs0 : Int32} {w : Wd} (h : fX4_takeNumber_b91 xs0 w = some (r0, w0)) : V x 91 [none, none, none, none, none, none] [.int xs0] (Rp (xD x) w) 0 0 := by
  unfold fX4_takeNumber_b91 at h
  exact v_iret hx hq (by decide) (by decide) dX4_takeNumber_91 (by cases h; rfl)
theorem vX4_takeNumber_b73 {x : CT} (hx : CX x cX4_takeNumber RX4 rmX4_takeNumber (some .int)) {r0 : Int32} {w0 : Wd} (hq : RI x rmX4_takeNumber r0 w0) {w : Wd} (h : fX4_takeNumber_b73 w = some (r0, w0)) : V x 73 [none, none, none, none, none, none] [] (Rp (xD x) w) 0 0 := by
  unfold fX4_takeNumber_b73 at h
  refine v_iconst (pc' := 74) (v := (-1)) hx dX4_takeNumber_73 (by decide) rfl ?_
  exact v_iret hx hq (by decide) (by decide) dX4_takeNumber_74 (by cases h; rfl)
theorem vX4_takeNumber_b58 {x : CT} (hx : CX x cX4_takeNumber RX4 rmX4_takeNumber (some .int)) {r0 : Int32} {w0 : Wd} (hq : RI x rmX4_takeNumber r0 w0) {a0 : Nat} {x2 : Int32} {x3 : Int32} {x4 : Int32} {x5 : Int32} {w : Wd} (hl0 : zL w 4 a0 = true) (h : fX4_takeNumber_b58 a0 x2 x3 x4 x5 w = some (r0, w0)) : V x 58 [some (.ref a0), none, some (.int x2), some (.int x3), some (.int x4), some (.int x5)] [] (Rp (xD x) w) 0 0 := by
  unfold fX4_takeNumber_b58 at h
  refine v_iload (pc' := 60) hx dX4_takeNumber_58 rfl rfl ?_
  refine v_if_eq (tgt := 73) (pc' := 63) hx dX4_takeNumber_60 (by decide) rfl (fun hc_1 => ?_) (fun hc_1 => ?_)
  · rw [if_pos hc_1] at h
    refine V.sb (L' := [none, none, none, none, none, none]) ⟨Or.inl rfl, Or.inl rfl, Or.inl rfl, Or.inl rfl, Or.inl rfl, Or.inl rfl, trivial⟩ ?_
    exact vX4_takeNumber_b73 hx hq h
  · rw [if_neg hc_1] at h
    refine v_aload_n (pc' := 64) hx dX4_takeNumber_63 rfl rfl ?_
    replace h := bd_inv h; obtain ⟨y_3, hcl_2, h⟩ := h
    refine v_callVi (pc' := 67) (w' := w) (r := y_3) (ci := 4) (b := a0) (As := []) (rest := []) hx hl0 (fun G sz hR => ctX4_next (xl x) (xD x) w G sz hR a0 hl0 hcl_2) rfl my_X4_next ml_X4_31 ⟨by decide, by decide⟩ ⟨by decide, by decide⟩ rfl rfl (Nat.le_of_ble_eq_true rfl) dX4_takeNumber_64 rfl ?_
    replace h := bd_inv h; obtain ⟨y_6, hcl_5, h⟩ := h
    refine v_callSi (pc' := 70) (w' := w) (r := y_6) (As := [.int y_3]) (rest := []) hx (fun G sz hR => ctX5_isDigit (xl x) (xD x) w G sz hR y_3  hcl_5) my_X5_isDigit ml_X4_35 ⟨by decide, by decide⟩ ⟨by decide, by decide⟩ rfl rfl (Nat.le_of_ble_eq_true rfl) dX4_takeNumber_67 rfl ?_
    refine v_if_eq (tgt := 75) (pc' := 73) hx dX4_takeNumber_70 (by decide) rfl (fun hc_8 => ?_) (fun hc_8 => ?_)
    · rw [if_pos hc_8] at h
      refine v_iload (pc' := 77) hx dX4_takeNumber_75 rfl rfl ?_
      refine v_iload_n (pc' := 78) hx dX4_takeNumber_77 rfl rfl ?_
      refine v_icmp_le (tgt := 89) (pc' := 81) hx dX4_takeNumber_78 (by decide) rfl (fun hc_9 => ?_) (fun hc_9 => ?_)
      · rw [if_pos hc_9] at h
        refine v_iload (pc' := 91) hx dX4_takeNumber_89 rfl rfl ?_
        refine V.sb (L' := [none, none, none, none, none, none]) ⟨Or.inl rfl, Or.inl rfl, Or.inl rfl, Or.inl rfl, Or.inl rfl, Or.inl rfl, trivial⟩ ?_
        exact vX4_takeNumber_b91 hx hq h
      · rw [if_neg hc_9] at h
        refine v_aload_n (pc' := 82) hx dX4_takeNumber_81 rfl rfl ?_
        refine v_iload_n (pc' := 83) hx dX4_takeNumber_82 rfl rfl ?_
        replace h := bd2_inv h; obtain ⟨y_11, w_12, hcl_10, h⟩ := h
        refine v_wf (fun hwf_13 => ?_)
        refine v_callVi (pc' := 86) (w' := w_12) (r := y_11) (ci := 4) (b := a0) (As := [.int x3]) (rest := []) hx hl0 (fun G sz hR => ctX4_tearAt (xl x) (xD x) w G sz hR a0 x3 hl0 hcl_10) rfl my_X4_tearAt ml_X4_39 ⟨by decide, by decide⟩ ⟨by decide, by decide⟩ rfl rfl (Nat.le_of_ble_eq_true rfl) dX4_takeNumber_83 rfl ?_
        have hm_15 := kX4_tearAt hcl_10 hwf_13
        have hl_16 : zL w_12 4 a0 = true := (hm_15.2 _ _ hl0).1
        refine v_goto (tgt := 91) hx dX4_takeNumber_86 (by decide) ?_
        refine V.sb (L' := [none, none, none, none, none, none]) ⟨Or.inl rfl, Or.inl rfl, Or.inl rfl, Or.inl rfl, Or.inl rfl, Or.inl rfl, trivial⟩ ?_
        exact vX4_takeNumber_b91 hx hq h
    · rw [if_neg hc_8] at h
      refine V.sb (L' := [none, none, none, none, none, none]) ⟨Or.inl rfl, Or.inl rfl, Or.inl rfl, Or.inl rfl, Or.inl rfl, Or.inl rfl, trivial⟩ ?_
      exact vX4_takeNumber_b73 hx hq h
theorem vX4_takeNumber_b11 {x : CT} (hx : CX x cX4_takeNumber RX4 rmX4_takeNumber (some .int)) {r0 : Int32} {w0 : Wd} (hq : RI x rmX4_takeNumber r0 w0) {rec11 : Nat → Int32 → Int32 → Int32 → Int32 → Int32 → Wd → Option (Int32 × Wd)} {a0 : Nat} {x1 : Int32} {x2 : Int32} {x3 : Int32} {x4 : Int32} {x5 : Int32} {w : Wd} (hrec11 : ∀ (a0 : Nat) (x1 : Int32) (x2 : Int32) (x3 : Int32) (x4 : Int32) (x5 : Int32) (w : Wd), rec11 a0 x1 x2 x3 x4 x5 w = some (r0, w0) → (zL w 4 a0 = true) → V x 11 [some (.ref a0), some (.int x1), some (.int x2), some (.int x3), some (.int x4), some (.int x5)] [] (Rp (xD x) w) 0 0) (hl0 : zL w 4 a0 = true) (h : fX4_takeNumber_b11 rec11 a0 x1 x2 x3 x4 x5 w = some (r0, w0)) : V x 11 [some (.ref a0), some (.int x1), some (.int x2), some (.int x3), some (.int x4), some (.int x5)] [] (Rp (xD x) w) 0 0 := by
  unfold fX4_takeNumber_b11 at h
  refine v_iload (pc' := 13) hx dX4_takeNumber_11 rfl rfl ?_
  refine v_iload_n (pc' := 14) hx dX4_takeNumber_13 rfl rfl ?_
  refine v_icmp_ge (tgt := 58) (pc' := 17) hx dX4_takeNumber_14 (by decide) rfl (fun hc_1 => ?_) (fun hc_1 => ?_)
  · rw [if_pos hc_1] at h
    refine V.sb (L' := [some (.ref a0), none, some (.int x2), some (.int x3), some (.int x4), some (.int x5)]) ⟨Or.inr rfl, Or.inl rfl, Or.inr rfl, Or.inr rfl, Or.inr rfl, Or.inr rfl, trivial⟩ ?_
    exact vX4_takeNumber_b58 hx hq hl0 h
  · rw [if_neg hc_1] at h
    refine v_aload_n (pc' := 18) hx dX4_takeNumber_17 rfl rfl ?_
    replace h := bd_inv h; obtain ⟨y_3, hcl_2, h⟩ := h
    refine v_callVi (pc' := 21) (w' := w) (r := y_3) (ci := 4) (b := a0) (As := []) (rest := []) hx hl0 (fun G sz hR => ctX4_next (xl x) (xD x) w G sz hR a0 hl0 hcl_2) rfl my_X4_next ml_X4_31 ⟨by decide, by decide⟩ ⟨by decide, by decide⟩ rfl rfl (Nat.le_of_ble_eq_true rfl) dX4_takeNumber_18 rfl ?_
    replace h := bd_inv h; obtain ⟨y_6, hcl_5, h⟩ := h
    refine v_callSi (pc' := 24) (w' := w) (r := y_6) (As := [.int y_3]) (rest := []) hx (fun G sz hR => ctX5_isDigit (xl x) (xD x) w G sz hR y_3  hcl_5) my_X5_isDigit ml_X4_35 ⟨by decide, by decide⟩ ⟨by decide, by decide⟩ rfl rfl (Nat.le_of_ble_eq_true rfl) dX4_takeNumber_21 rfl ?_
    refine v_if_eq (tgt := 58) (pc' := 27) hx dX4_takeNumber_24 (by decide) rfl (fun hc_8 => ?_) (fun hc_8 => ?_)
    · rw [if_pos hc_8] at h
      refine V.sb (L' := [some (.ref a0), none, some (.int x2), some (.int x3), some (.int x4), some (.int x5)]) ⟨Or.inr rfl, Or.inl rfl, Or.inr rfl, Or.inr rfl, Or.inr rfl, Or.inr rfl, trivial⟩ ?_
      exact vX4_takeNumber_b58 hx hq hl0 h
    · rw [if_neg hc_8] at h
      refine v_iload (pc' := 29) hx dX4_takeNumber_27 rfl rfl ?_
      refine v_bipush (pc' := 31) (v := 10) hx dX4_takeNumber_29 (by decide) rfl ?_
      refine v_imul (pc' := 32) hx dX4_takeNumber_31 rfl ?_
      refine v_aload_n (pc' := 33) hx dX4_takeNumber_32 rfl rfl ?_
      replace h := bd_inv h; obtain ⟨y_10, hcl_9, h⟩ := h
      refine v_callVi (pc' := 36) (w' := w) (r := y_10) (ci := 4) (b := a0) (As := []) (rest := [.int (x4 * 10)]) hx hl0 (fun G sz hR => ctX4_next (xl x) (xD x) w G sz hR a0 hl0 hcl_9) rfl my_X4_next ml_X4_31 ⟨by decide, by decide⟩ ⟨by decide, by decide⟩ rfl rfl (Nat.le_of_ble_eq_true rfl) dX4_takeNumber_33 rfl ?_
      refine v_iadd (pc' := 37) hx dX4_takeNumber_36 rfl ?_
      refine v_bipush (pc' := 39) (v := 48) hx dX4_takeNumber_37 (by decide) rfl ?_
      refine v_isub (pc' := 40) hx dX4_takeNumber_39 rfl ?_
      refine v_istore (pc' := 42) (L' := [some (.ref a0), some (.int x1), some (.int x2), some (.int x3), some (.int (((x4 * 10) + y_10) - 48)), some (.int x5)]) hx dX4_takeNumber_40 rfl rfl (Nat.le_of_ble_eq_true rfl) ?_
      refine v_aload_n (pc' := 43) hx dX4_takeNumber_42 rfl rfl ?_
      refine v_dup (pc' := 44) hx dX4_takeNumber_43 rfl rfl ?_
      refine v_getI (pc' := 47) hx hl0 fi_4_3.1 fi_4_3.2.1 fk_X4_28 dX4_takeNumber_44 rfl ?_
      refine v_iconst (pc' := 48) (v := 1) hx dX4_takeNumber_47 (by decide) rfl ?_
      refine v_iadd (pc' := 49) hx dX4_takeNumber_48 rfl ?_
      refine v_putI (pc' := 52) hx hl0 fi_4_3.1 fi_4_3.2.1 fi_4_3.2.2 fk_X4_28 dX4_takeNumber_49 rfl ?_
      replace h := lt_inv h; obtain ⟨w_12, ew_13, h⟩ := h
      rw [← ew_13]
      have hl_14 : zL w_12 4 a0 = true := by rw [ew_13]; exact hl0
      refine v_iinc (pc' := 55) (w0 := (x5 + 1)) (L' := [some (.ref a0), some (.int x1), some (.int x2), some (.int x3), some (.int (((x4 * 10) + y_10) - 48)), some (.int (x5 + 1))]) hx dX4_takeNumber_52 rfl rfl rfl rfl ?_
      refine v_goto (tgt := 11) hx dX4_takeNumber_55 (by decide) ?_
      exact hrec11 a0 x1 x2 x3 (((x4 * 10) + y_10) - 48) (x5 + 1) w_12 h hl_14
theorem vX4_takeNumber_l11 {x : CT} (hx : CX x cX4_takeNumber RX4 rmX4_takeNumber (some .int)) {r0 : Int32} {w0 : Wd} (hq : RI x rmX4_takeNumber r0 w0) : ∀ (n : Nat) (a0 : Nat) (x1 : Int32) (x2 : Int32) (x3 : Int32) (x4 : Int32) (x5 : Int32) (w : Wd), (zL w 4 a0 = true) → fX4_takeNumber_l11  n a0 x1 x2 x3 x4 x5 w = some (r0, w0) → V x 11 [some (.ref a0), some (.int x1), some (.int x2), some (.int x3), some (.int x4), some (.int x5)] [] (Rp (xD x) w) 0 0 := by
  intro n
  induction n with
  | zero => intro a0 x1 x2 x3 x4 x5 w hl0 h; cases h
  | succ n ih =>
    intro a0 x1 x2 x3 x4 x5 w hl0 h
    exact vX4_takeNumber_b11 hx hq  (fun a0 x1 x2 x3 x4 x5 w h hl0 => ih a0 x1 x2 x3 x4 x5 w hl0 h) hl0 h
theorem vX4_takeNumber {x : CT} (hx : CX x cX4_takeNumber RX4 rmX4_takeNumber (some .int)) {r0 : Int32} {w0 : Wd} {w : Wd} (hq : RI x rmX4_takeNumber r0 w0) (a0 : Nat) (x1 : Int32) (x2 : Int32) (hl0 : zL w 4 a0 = true) (h : fX4_takeNumber a0 x1 x2 w = some (r0, w0)) : V x 0 [some (.ref a0), some (.int x1), some (.int x2), none, none, none] [] (Rp (xD x) w) 0 0 := by
  unfold fX4_takeNumber at h
  refine v_aload_n (pc' := 1) hx dX4_takeNumber_0 rfl rfl ?_
  refine v_getI (pc' := 4) hx hl0 fi_4_3.1 fi_4_3.2.1 fk_X4_28 dX4_takeNumber_1 rfl ?_
  refine v_istore_n (pc' := 5) (L' := [some (.ref a0), some (.int x1), some (.int x2), some (.int (zI w 4 a0 3 0)), none, none]) hx dX4_takeNumber_4 rfl rfl (Nat.le_of_ble_eq_true rfl) ?_
  refine v_iconst (pc' := 6) (v := 0) hx dX4_takeNumber_5 (by decide) rfl ?_
  refine v_istore (pc' := 8) (L' := [some (.ref a0), some (.int x1), some (.int x2), some (.int (zI w 4 a0 3 0)), some (.int 0), none]) hx dX4_takeNumber_6 rfl rfl (Nat.le_of_ble_eq_true rfl) ?_
  refine v_iconst (pc' := 9) (v := 0) hx dX4_takeNumber_8 (by decide) rfl ?_
  refine v_istore (pc' := 11) (L' := [some (.ref a0), some (.int x1), some (.int x2), some (.int (zI w 4 a0 3 0)), some (.int 0), some (.int 0)]) hx dX4_takeNumber_9 rfl rfl (Nat.le_of_ble_eq_true rfl) ?_
  exact vX4_takeNumber_l11 hx hq 1000 a0 x1 x2 (zI w 4 a0 3 0) 0 0 w hl0 h
theorem ctX4_takeNumber (l : Launch) (D : DD) (w : Wd) (G : GT) (sz : Nat) (hR : Rp D w G sz) (a0 : Nat) (x1 : Int32) (x2 : Int32) (hl0 : zL w 4 a0 = true) {r0 : Int32} {w0 : Wd} (h : fX4_takeNumber a0 x1 x2 w = some (r0, w0)) : MetI l yX4_takeNumber (WS yX4_takeNumber cX4_takeNumber 6 (some .int)) rmX4_takeNumber D [.ref a0, .int x1, .int x2] G sz r0 w0 := by
  refine MetI_ofV (own := RX4) (P := Rp D w) hR (by decide) rfl (by simp [Value.category]) (Nat.le_of_ble_eq_true rfl) (fun x hx hq hD hl => ?_)
  subst hD
  exact vX4_takeNumber hx hq a0 x1 x2 hl0 h
theorem vX4_isAtEndOfPart_b21 {x : CT} (hx : CX x cX4_isAtEndOfPart RX4 rmX4_isAtEndOfPart (some .boolean)) {r0 : Int32} {w : Wd} (hq : RI x rmX4_isAtEndOfPart r0 w) {xs0 : Int32} (h : fX4_isAtEndOfPart_b21 w xs0 = some r0) : V x 21 [none, none] [.int xs0] (Rp (xD x) w) 0 0 := by
  unfold fX4_isAtEndOfPart_b21 at h
  replace h := ckp_inv h; obtain ⟨hk_1, h⟩ := h
  exact v_zret hx hq (by decide) (by decide) dX4_isAtEndOfPart_21 hk_1 (by cases h; rfl)
theorem vX4_isAtEndOfPart_b16 {x : CT} (hx : CX x cX4_isAtEndOfPart RX4 rmX4_isAtEndOfPart (some .boolean)) {r0 : Int32} {w : Wd} (hq : RI x rmX4_isAtEndOfPart r0 w) (h : fX4_isAtEndOfPart_b16 w = some r0) : V x 16 [none, none] [] (Rp (xD x) w) 0 0 := by
  unfold fX4_isAtEndOfPart_b16 at h
  refine v_iconst (pc' := 17) (v := 1) hx dX4_isAtEndOfPart_16 (by decide) rfl ?_
  refine v_goto (tgt := 21) hx dX4_isAtEndOfPart_17 (by decide) ?_
  exact vX4_isAtEndOfPart_b21 hx hq h
theorem vX4_isAtEndOfPart {x : CT} (hx : CX x cX4_isAtEndOfPart RX4 rmX4_isAtEndOfPart (some .boolean)) {r0 : Int32} {w : Wd} (hq : RI x rmX4_isAtEndOfPart r0 w) (a0 : Nat) (hl0 : zL w 4 a0 = true) (h : fX4_isAtEndOfPart a0 w = some r0) : V x 0 [some (.ref a0), none] [] (Rp (xD x) w) 0 0 := by
  unfold fX4_isAtEndOfPart at h
  refine v_aload_n (pc' := 1) hx dX4_isAtEndOfPart_0 rfl rfl ?_
  replace h := bd_inv h; obtain ⟨y_2, hcl_1, h⟩ := h
  refine v_callVi (pc' := 4) (w' := w) (r := y_2) (ci := 4) (b := a0) (As := []) (rest := []) hx hl0 (fun G sz hR => ctX4_next (xl x) (xD x) w G sz hR a0 hl0 hcl_1) rfl my_X4_next ml_X4_31 ⟨by decide, by decide⟩ ⟨by decide, by decide⟩ rfl rfl (Nat.le_of_ble_eq_true rfl) dX4_isAtEndOfPart_1 rfl ?_
  refine v_istore_n (pc' := 5) (L' := [some (.ref a0), some (.int y_2)]) hx dX4_isAtEndOfPart_4 rfl rfl (Nat.le_of_ble_eq_true rfl) ?_
  refine v_iload_n (pc' := 6) hx dX4_isAtEndOfPart_5 rfl rfl ?_
  refine v_iconst (pc' := 7) (v := (-1)) hx dX4_isAtEndOfPart_6 (by decide) rfl ?_
  refine v_icmp_eq (tgt := 16) (pc' := 10) hx dX4_isAtEndOfPart_7 (by decide) rfl (fun hc_4 => ?_) (fun hc_4 => ?_)
  · rw [if_pos hc_4] at h
    refine V.sb (L' := [none, none]) ⟨Or.inl rfl, Or.inl rfl, trivial⟩ ?_
    exact vX4_isAtEndOfPart_b16 hx hq h
  · rw [if_neg hc_4] at h
    refine v_iload_n (pc' := 11) hx dX4_isAtEndOfPart_10 rfl rfl ?_
    refine v_bipush (pc' := 13) (v := 59) hx dX4_isAtEndOfPart_11 (by decide) rfl ?_
    refine v_icmp_ne (tgt := 20) (pc' := 16) hx dX4_isAtEndOfPart_13 (by decide) rfl (fun hc_5 => ?_) (fun hc_5 => ?_)
    · rw [if_neg hc_5] at h
      refine v_iconst (pc' := 21) (v := 0) hx dX4_isAtEndOfPart_20 (by decide) rfl ?_
      refine V.sb (L' := [none, none]) ⟨Or.inl rfl, Or.inl rfl, trivial⟩ ?_
      exact vX4_isAtEndOfPart_b21 hx hq h
    · rw [if_pos hc_5] at h
      refine V.sb (L' := [none, none]) ⟨Or.inl rfl, Or.inl rfl, trivial⟩ ?_
      exact vX4_isAtEndOfPart_b16 hx hq h
theorem ctX4_isAtEndOfPart (l : Launch) (D : DD) (w : Wd) (G : GT) (sz : Nat) (hR : Rp D w G sz) (a0 : Nat) (hl0 : zL w 4 a0 = true) {r0 : Int32} (h : fX4_isAtEndOfPart a0 w = some r0) : MetI l yX4_isAtEndOfPart (WS yX4_isAtEndOfPart cX4_isAtEndOfPart 2 (some .boolean)) rmX4_isAtEndOfPart D [.ref a0] G sz r0 w := by
  refine MetI_ofV (own := RX4) (P := Rp D w) hR (by decide) rfl (by simp [Value.category]) (Nat.le_of_ble_eq_true rfl) (fun x hx hq hD hl => ?_)
  subst hD
  exact vX4_isAtEndOfPart hx hq a0 hl0 h
theorem kX4_readHead_b32 {r0 : Int32} {w0 : Wd} {xs0 : Int32} {w wb : Wd} (hm : mo wb w) (h : fX4_readHead_b32 xs0 w = some (r0, w0)) : mo wb w0 := by
  unfold fX4_readHead_b32 at h
  cases h; exact hm
theorem kX4_readHead {r0 : Int32} {w0 : Wd} {a0 : Nat} {w : Wd} (h : fX4_readHead a0 w = some (r0, w0)) : mo w w0 := by
  have hm := mo_rf w
  unfold fX4_readHead at h
  replace h := bd2_inv h; obtain ⟨y_2, w_3, hcl_1, h⟩ := h
  have hm := hm.tr (kX4_take hcl_1)
  by_cases hc_8 : y_2 = 0
  · rw [if_pos hc_8] at h
    cases h; exact hm
  · rw [if_neg hc_8] at h
    replace h := bd2_inv h; obtain ⟨y_10, w_11, hcl_9, h⟩ := h
    have hm := hm.tr (kX4_takeNumber hcl_9)
    replace h := bd_inv h; obtain ⟨y_16, hcl_15, h⟩ := h
    by_cases hc_18 : y_16 = 0
    · rw [if_pos hc_18] at h
      exact kX4_readHead_b32 hm h
    · rw [if_neg hc_18] at h
      exact kX4_readHead_b32 hm h
theorem vX4_readHead_b32 {x : CT} (hx : CX x cX4_readHead RX4 rmX4_readHead (some .int)) {r0 : Int32} {w0 : Wd} (hq : RI x rmX4_readHead r0 w0) {xs0 : Int32} {w : Wd} (h : fX4_readHead_b32 xs0 w = some (r0, w0)) : V x 32 [none, none] [.int xs0] (Rp (xD x) w) 0 0 := by
  unfold fX4_readHead_b32 at h
  exact v_iret hx hq (by decide) (by decide) dX4_readHead_32 (by cases h; rfl)
theorem vX4_readHead {x : CT} (hx : CX x cX4_readHead RX4 rmX4_readHead (some .int)) {r0 : Int32} {w0 : Wd} {w : Wd} (hq : RI x rmX4_readHead r0 w0) (a0 : Nat) (hl0 : zL w 4 a0 = true) (h : fX4_readHead a0 w = some (r0, w0)) : V x 0 [some (.ref a0), none] [] (Rp (xD x) w) 0 0 := by
  unfold fX4_readHead at h
  refine v_aload_n (pc' := 1) hx dX4_readHead_0 rfl rfl ?_
  refine v_bipush (pc' := 3) (v := 116) hx dX4_readHead_1 (by decide) rfl ?_
  replace h := bd2_inv h; obtain ⟨y_2, w_3, hcl_1, h⟩ := h
  refine v_wf (fun hwf_4 => ?_)
  refine v_callVi (pc' := 6) (w' := w_3) (r := y_2) (ci := 4) (b := a0) (As := [.int 116]) (rest := []) hx hl0 (fun G sz hR => ctX4_take (xl x) (xD x) w G sz hR a0 116 hl0 hcl_1) rfl my_X4_take ml_X4_43 ⟨by decide, by decide⟩ ⟨by decide, by decide⟩ rfl rfl (Nat.le_of_ble_eq_true rfl) dX4_readHead_3 rfl ?_
  have hm_6 := kX4_take hcl_1 hwf_4
  have hl_7 : zL w_3 4 a0 = true := (hm_6.2 _ _ hl0).1
  refine v_if_ne (tgt := 11) (pc' := 9) hx dX4_readHead_6 (by decide) rfl (fun hc_8 => ?_) (fun hc_8 => ?_)
  · rw [if_neg hc_8] at h
    refine v_aload_n (pc' := 12) hx dX4_readHead_11 rfl rfl ?_
    refine v_iconst (pc' := 13) (v := 4) hx dX4_readHead_12 (by decide) rfl ?_
    refine v_sipush (pc' := 16) (v := 9999) hx dX4_readHead_13 (by decide) rfl ?_
    replace h := bd2_inv h; obtain ⟨y_10, w_11, hcl_9, h⟩ := h
    refine v_callVi (pc' := 19) (w' := w_11) (r := y_10) (ci := 4) (b := a0) (As := [.int 4, .int 9999]) (rest := []) hx hl_7 (fun G sz hR => ctX4_takeNumber (xl x) (xD x) w_3 G sz hR a0 4 9999 hl_7 hcl_9) rfl my_X4_takeNumber ml_X4_47 ⟨by decide, by decide⟩ ⟨by decide, by decide⟩ rfl rfl (Nat.le_of_ble_eq_true rfl) dX4_readHead_16 rfl ?_
    have hm_13 := kX4_takeNumber hcl_9 hm_6.1
    have hl_14 : zL w_11 4 a0 = true := (hm_13.2 _ _ hl_7).1
    refine v_istore_n (pc' := 20) (L' := [some (.ref a0), some (.int y_10)]) hx dX4_readHead_19 rfl rfl (Nat.le_of_ble_eq_true rfl) ?_
    refine v_aload_n (pc' := 21) hx dX4_readHead_20 rfl rfl ?_
    replace h := bd_inv h; obtain ⟨y_16, hcl_15, h⟩ := h
    refine v_callVi (pc' := 24) (w' := w_11) (r := y_16) (ci := 4) (b := a0) (As := []) (rest := []) hx hl_14 (fun G sz hR => ctX4_isAtEndOfPart (xl x) (xD x) w_11 G sz hR a0 hl_14 hcl_15) rfl my_X4_isAtEndOfPart ml_X4_50 ⟨by decide, by decide⟩ ⟨by decide, by decide⟩ rfl rfl (Nat.le_of_ble_eq_true rfl) dX4_readHead_21 rfl ?_
    refine v_if_eq (tgt := 31) (pc' := 27) hx dX4_readHead_24 (by decide) rfl (fun hc_18 => ?_) (fun hc_18 => ?_)
    · rw [if_pos hc_18] at h
      refine v_iconst (pc' := 32) (v := (-1)) hx dX4_readHead_31 (by decide) rfl ?_
      refine V.sb (L' := [none, none]) ⟨Or.inl rfl, Or.inl rfl, trivial⟩ ?_
      exact vX4_readHead_b32 hx hq h
    · rw [if_neg hc_18] at h
      refine v_iload_n (pc' := 28) hx dX4_readHead_27 rfl rfl ?_
      refine v_goto (tgt := 32) hx dX4_readHead_28 (by decide) ?_
      refine V.sb (L' := [none, none]) ⟨Or.inl rfl, Or.inl rfl, trivial⟩ ?_
      exact vX4_readHead_b32 hx hq h
  · rw [if_pos hc_8] at h
    refine v_iconst (pc' := 10) (v := (-1)) hx dX4_readHead_9 (by decide) rfl ?_
    exact v_iret hx hq (by decide) (by decide) dX4_readHead_10 (by cases h; rfl)
theorem ctX4_readHead (l : Launch) (D : DD) (w : Wd) (G : GT) (sz : Nat) (hR : Rp D w G sz) (a0 : Nat) (hl0 : zL w 4 a0 = true) {r0 : Int32} {w0 : Wd} (h : fX4_readHead a0 w = some (r0, w0)) : MetI l yX4_readHead (WS yX4_readHead cX4_readHead 2 (some .int)) rmX4_readHead D [.ref a0] G sz r0 w0 := by
  refine MetI_ofV (own := RX4) (P := Rp D w) hR (by decide) rfl (by simp [Value.category]) (Nat.le_of_ble_eq_true rfl) (fun x hx hq hD hl => ?_)
  subst hD
  exact vX4_readHead hx hq a0 hl0 h
theorem vX5_isTickTaken_b39 {x : CT} (hx : CX x cX5_isTickTaken RX5 rmX5_isTickTaken (some .boolean)) {r0 : Int32} {w : Wd} (hq : RI x rmX5_isTickTaken r0 w) {rec11 : Int32 → Nat → Int32 → Int32 → Option (Int32)} {x1 : Int32} {o2 : Nat} {x3 : Int32} {x4 : Int32} { q2 : Nat} (hrec11 : ∀ (x1 : Int32) (o2 : Nat) (x3 : Int32) (x4 : Int32) (q2 : Nat), rec11 x1 o2 x3 x4 = some r0 → (zL w 5 o2 = true) → (zA w 5 o2 1 = q2) → V x 11 [none, some (.int x1), some (.ref q2), some (.int x3), some (.int x4), none] [] (Rp (xD x) w) 0 0) (hl2 : zL w 5 o2 = true) (hq2 : zA w 5 o2 1 = q2) (h : fX5_isTickTaken_b39 w rec11 x1 o2 x3 x4 = some r0) : V x 39 [none, some (.int x1), some (.ref q2), some (.int x3), some (.int x4), none] [] (Rp (xD x) w) 0 0 := by
  unfold fX5_isTickTaken_b39 at h
  refine v_iinc (pc' := 42) (w0 := (x4 + 1)) (L' := [none, some (.int x1), some (.ref q2), some (.int x3), some (.int (x4 + 1)), none]) hx dX5_isTickTaken_39 rfl rfl rfl rfl ?_
  refine v_goto (tgt := 11) hx dX5_isTickTaken_42 (by decide) ?_
  exact hrec11 x1 o2 x3 (x4 + 1) q2 h hl2 hq2
theorem vX5_isTickTaken_b11 {x : CT} (hx : CX x cX5_isTickTaken RX5 rmX5_isTickTaken (some .boolean)) {r0 : Int32} {w : Wd} (hq : RI x rmX5_isTickTaken r0 w) {rec11 : Int32 → Nat → Int32 → Int32 → Option (Int32)} {x1 : Int32} {o2 : Nat} {x3 : Int32} {x4 : Int32} { q2 : Nat} (hrec11 : ∀ (x1 : Int32) (o2 : Nat) (x3 : Int32) (x4 : Int32) (q2 : Nat), rec11 x1 o2 x3 x4 = some r0 → (zL w 5 o2 = true) → (zA w 5 o2 1 = q2) → V x 11 [none, some (.int x1), some (.ref q2), some (.int x3), some (.int x4), none] [] (Rp (xD x) w) 0 0) (hl2 : zL w 5 o2 = true) (hq2 : zA w 5 o2 1 = q2) (h : fX5_isTickTaken_b11 w rec11 x1 o2 x3 x4 = some r0) : V x 11 [none, some (.int x1), some (.ref q2), some (.int x3), some (.int x4), none] [] (Rp (xD x) w) 0 0 := by
  unfold fX5_isTickTaken_b11 at h
  refine v_iload (pc' := 13) hx dX5_isTickTaken_11 rfl rfl ?_
  refine v_iload_n (pc' := 14) hx dX5_isTickTaken_13 rfl rfl ?_
  refine v_icmp_ge (tgt := 45) (pc' := 17) hx dX5_isTickTaken_14 (by decide) rfl (fun hc_1 => ?_) (fun hc_1 => ?_)
  · rw [if_pos hc_1] at h
    refine v_iconst (pc' := 46) (v := 0) hx dX5_isTickTaken_45 (by decide) rfl ?_
    replace h := ckp_inv h; obtain ⟨hk_2, h⟩ := h
    exact v_zret hx hq (by decide) (by decide) dX5_isTickTaken_46 hk_2 (by cases h; rfl)
  · rw [if_neg hc_1] at h
    refine v_aload_n (pc' := 18) hx dX5_isTickTaken_17 rfl rfl ?_
    refine v_iload (pc' := 20) hx dX5_isTickTaken_18 rfl rfl ?_
    replace h := ckp_inv h; obtain ⟨hk_3, h⟩ := h
    refine v_aaldq (pc' := 21) hx hl2 fi_5_1.1 fi_5_1.2.2 rfl hk_3 hq2 dX5_isTickTaken_20 rfl ?_
    replace h := lt_inv h; obtain ⟨u_4, er_5, h⟩ := h
    rw [← er_5]
    refine v_liv hl2 (fun ht_6 => ?_)
    have hl_7 : ∀ b, u_4 = some b → zL w 1 b = true := fun b hb => ht_6 1 _ b (er_5.symm.trans hb)
    refine v_astoreq (pc' := 23) (L' := [none, some (.int x1), some (.ref q2), some (.int x3), some (.int x4), some (va_rf u_4)]) hx dX5_isTickTaken_21 rfl rfl (Nat.le_of_ble_eq_true rfl) ?_
    refine v_aloadq (pc' := 25) hx dX5_isTickTaken_23 rfl rfl ?_
    refine v_ifnull (tgt := 39) (pc' := 28) hx dX5_isTickTaken_25 (by decide) rfl (fun hn_9 => ?_) (fun b_8 hn_9 => ?_)
    · subst hn_9
      rw [oc_n] at h
      refine V.sb (L' := [none, some (.int x1), some (.ref q2), some (.int x3), some (.int x4), none]) ⟨Or.inl rfl, Or.inr rfl, Or.inr rfl, Or.inr rfl, Or.inr rfl, Or.inl rfl, trivial⟩ ?_
      exact vX5_isTickTaken_b39 hx hq hrec11 hl2 hq2 h
    · subst hn_9
      rw [oc_s] at h
      have hl_10 : zL w 1 b_8 = true := hl_7 _ rfl
      refine v_aload (pc' := 30) hx dX5_isTickTaken_28 rfl rfl ?_
      refine v_getI (pc' := 33) hx hl_10 fi_1_0.1 fi_1_0.2.1 fk_X5_141 dX5_isTickTaken_30 rfl ?_
      refine v_iload_n (pc' := 34) hx dX5_isTickTaken_33 rfl rfl ?_
      refine v_icmp_ne (tgt := 39) (pc' := 37) hx dX5_isTickTaken_34 (by decide) rfl (fun hc_11 => ?_) (fun hc_11 => ?_)
      · rw [if_neg hc_11] at h
        refine V.sb (L' := [none, some (.int x1), some (.ref q2), some (.int x3), some (.int x4), none]) ⟨Or.inl rfl, Or.inr rfl, Or.inr rfl, Or.inr rfl, Or.inr rfl, Or.inl rfl, trivial⟩ ?_
        exact vX5_isTickTaken_b39 hx hq hrec11 hl2 hq2 h
      · rw [if_pos hc_11] at h
        refine v_iconst (pc' := 38) (v := 1) hx dX5_isTickTaken_37 (by decide) rfl ?_
        replace h := ckp_inv h; obtain ⟨hk_12, h⟩ := h
        exact v_zret hx hq (by decide) (by decide) dX5_isTickTaken_38 hk_12 (by cases h; rfl)
theorem vX5_isTickTaken_l11 {x : CT} (hx : CX x cX5_isTickTaken RX5 rmX5_isTickTaken (some .boolean)) {r0 : Int32} {w : Wd} (hq : RI x rmX5_isTickTaken r0 w) : ∀ (n : Nat) (x1 : Int32) (o2 : Nat) (x3 : Int32) (x4 : Int32) (q2 : Nat), (zL w 5 o2 = true) → (zA w 5 o2 1 = q2) → fX5_isTickTaken_l11 w n x1 o2 x3 x4 = some r0 → V x 11 [none, some (.int x1), some (.ref q2), some (.int x3), some (.int x4), none] [] (Rp (xD x) w) 0 0 := by
  intro n
  induction n with
  | zero => intro x1 o2 x3 x4 q2 hl2 hq2 h; cases h
  | succ n ih =>
    intro x1 o2 x3 x4 q2 hl2 hq2 h
    exact vX5_isTickTaken_b11 hx hq  (fun x1 o2 x3 x4 q2 h hl2 hq2 => ih x1 o2 x3 x4 q2 hl2 hq2 h) hl2 hq2 h
theorem vX5_isTickTaken {x : CT} (hx : CX x cX5_isTickTaken RX5 rmX5_isTickTaken (some .boolean)) {r0 : Int32} {w : Wd} (hq : RI x rmX5_isTickTaken r0 w) (a0 : Nat) (x1 : Int32) (hl0 : zL w 5 a0 = true) (h : fX5_isTickTaken a0 x1 w = some r0) : V x 0 [some (.ref a0), some (.int x1), none, none, none, none] [] (Rp (xD x) w) 0 0 := by
  unfold fX5_isTickTaken at h
  refine v_aload_n (pc' := 1) hx dX5_isTickTaken_0 rfl rfl ?_
  obtain ⟨g_1, hq_2⟩ : ∃ q, zA w 5 a0 1 = q := ⟨_, rfl⟩
  refine v_getAq (pc' := 4) hx hl0 fi_5_1.1 (by decide) hq_2 fk_X5_18 dX5_isTickTaken_1 rfl ?_
  refine v_astore_n (pc' := 5) (L' := [some (.ref a0), some (.int x1), some (.ref g_1), none, none, none]) hx dX5_isTickTaken_4 rfl rfl (Nat.le_of_ble_eq_true rfl) ?_
  refine v_aload_n (pc' := 6) hx dX5_isTickTaken_5 rfl rfl ?_
  refine v_alenq (pc' := 7) (v := 8) hx hl0 fi_5_1.1 (by decide) (by decide) hq_2 dX5_isTickTaken_6 rfl ?_
  refine v_istore_n (pc' := 8) (L' := [some (.ref a0), some (.int x1), some (.ref g_1), some (.int 8), none, none]) hx dX5_isTickTaken_7 rfl rfl (Nat.le_of_ble_eq_true rfl) ?_
  refine v_iconst (pc' := 9) (v := 0) hx dX5_isTickTaken_8 (by decide) rfl ?_
  refine v_istore (pc' := 11) (L' := [some (.ref a0), some (.int x1), some (.ref g_1), some (.int 8), some (.int 0), none]) hx dX5_isTickTaken_9 rfl rfl (Nat.le_of_ble_eq_true rfl) ?_
  refine V.sb (L' := [none, some (.int x1), some (.ref g_1), some (.int 8), some (.int 0), none]) ⟨Or.inl rfl, Or.inr rfl, Or.inr rfl, Or.inr rfl, Or.inr rfl, Or.inl rfl, trivial⟩ ?_
  exact vX5_isTickTaken_l11 hx hq 1000 x1 a0 8 0 g_1 hl0 hq_2 h
theorem ctX5_isTickTaken (l : Launch) (D : DD) (w : Wd) (G : GT) (sz : Nat) (hR : Rp D w G sz) (a0 : Nat) (x1 : Int32) (hl0 : zL w 5 a0 = true) {r0 : Int32} (h : fX5_isTickTaken a0 x1 w = some r0) : MetI l yX5_isTickTaken (WS yX5_isTickTaken cX5_isTickTaken 6 (some .boolean)) rmX5_isTickTaken D [.ref a0, .int x1] G sz r0 w := by
  refine MetI_ofV (own := RX5) (P := Rp D w) hR (by decide) rfl (by simp [Value.category]) (Nat.le_of_ble_eq_true rfl) (fun x hx hq hD hl => ?_)
  subst hD
  exact vX5_isTickTaken hx hq a0 x1 hl0 h
theorem vX5_isThread_b15 {x : CT} (hx : CX x cX5_isThread RX5 rmX5_isThread (some .boolean)) {r0 : Int32} {w : Wd} (hq : RI x rmX5_isThread r0 w) {xs0 : Int32} (h : fX5_isThread_b15 w xs0 = some r0) : V x 15 [none] [.int xs0] (Rp (xD x) w) 0 0 := by
  unfold fX5_isThread_b15 at h
  replace h := ckp_inv h; obtain ⟨hk_1, h⟩ := h
  exact v_zret hx hq (by decide) (by decide) dX5_isThread_15 hk_1 (by cases h; rfl)
theorem vX5_isThread_b14 {x : CT} (hx : CX x cX5_isThread RX5 rmX5_isThread (some .boolean)) {r0 : Int32} {w : Wd} (hq : RI x rmX5_isThread r0 w) (h : fX5_isThread_b14 w = some r0) : V x 14 [none] [] (Rp (xD x) w) 0 0 := by
  unfold fX5_isThread_b14 at h
  refine v_iconst (pc' := 15) (v := 0) hx dX5_isThread_14 (by decide) rfl ?_
  exact vX5_isThread_b15 hx hq h
theorem vX5_isThread {x : CT} (hx : CX x cX5_isThread RX5 rmX5_isThread (some .boolean)) {r0 : Int32} {w : Wd} (hq : RI x rmX5_isThread r0 w) (x0 : Int32) (h : fX5_isThread x0 w = some r0) : V x 0 [some (.int x0)] [] (Rp (xD x) w) 0 0 := by
  unfold fX5_isThread at h
  refine v_iload_n (pc' := 1) hx dX5_isThread_0 rfl rfl ?_
  refine v_if_lt (tgt := 14) (pc' := 4) hx dX5_isThread_1 (by decide) rfl (fun hc_1 => ?_) (fun hc_1 => ?_)
  · rw [if_pos hc_1] at h
    refine V.sb (L' := [none]) ⟨Or.inl rfl, trivial⟩ ?_
    exact vX5_isThread_b14 hx hq h
  · rw [if_neg hc_1] at h
    refine v_iload_n (pc' := 5) hx dX5_isThread_4 rfl rfl ?_
    refine v_bipush (pc' := 7) (v := 24) hx dX5_isThread_5 (by decide) rfl ?_
    refine v_icmp_ge (tgt := 14) (pc' := 10) hx dX5_isThread_7 (by decide) rfl (fun hc_2 => ?_) (fun hc_2 => ?_)
    · rw [if_pos hc_2] at h
      refine V.sb (L' := [none]) ⟨Or.inl rfl, trivial⟩ ?_
      exact vX5_isThread_b14 hx hq h
    · rw [if_neg hc_2] at h
      refine v_iconst (pc' := 11) (v := 1) hx dX5_isThread_10 (by decide) rfl ?_
      refine v_goto (tgt := 15) hx dX5_isThread_11 (by decide) ?_
      refine V.sb (L' := [none]) ⟨Or.inl rfl, trivial⟩ ?_
      exact vX5_isThread_b15 hx hq h
theorem ctX5_isThread (l : Launch) (D : DD) (w : Wd) (G : GT) (sz : Nat) (hR : Rp D w G sz) (x0 : Int32) {r0 : Int32} (h : fX5_isThread x0 w = some r0) : MetI l yX5_isThread (WS yX5_isThread cX5_isThread 1 (some .boolean)) rmX5_isThread D [.int x0] G sz r0 w := by
  refine MetI_ofV (own := RX5) (P := Rp D w) hR (by decide) rfl (by simp [Value.category]) (Nat.le_of_ble_eq_true rfl) (fun x hx hq hD hl => ?_)
  subst hD
  exact vX5_isThread hx hq x0  h
theorem vX1_rowOf_b17 {x : CT} (hx : CX x cX1_rowOf RX1 rmX1_rowOf (some (.object "StuckHands$Row"))) {r0 : Option Nat} {w : Wd} (hq : RQ x rmX1_rowOf 2 r0 w) {rs0 : Option Nat} (hls0 : ∀ b, rs0 = some b → zL w 2 b = true) (h : fX1_rowOf_b17 w rs0 = some r0) : V x 17 [none, none] [va_rf rs0] (Rp (xD x) w) 0 0 := by
  unfold fX1_rowOf_b17 at h
  exact v_aret hx hq (by decide) (by decide) dX1_rowOf_17 (by cases h; rfl) hls0
theorem vX1_rowOf {x : CT} (hx : CX x cX1_rowOf RX1 rmX1_rowOf (some (.object "StuckHands$Row"))) {r0 : Option Nat} {w : Wd} (hq : RQ x rmX1_rowOf 2 r0 w) (a0 : Nat) (x1 : Int32) (hl0 : zL w 1 a0 = true) (h : fX1_rowOf a0 x1 w = some r0) : V x 0 [some (.ref a0), some (.int x1)] [] (Rp (xD x) w) 0 0 := by
  unfold fX1_rowOf at h
  refine v_iload_n (pc' := 1) hx dX1_rowOf_0 rfl rfl ?_
  replace h := bd_inv h; obtain ⟨y_2, hcl_1, h⟩ := h
  refine v_callSi (pc' := 4) (w' := w) (r := y_2) (As := [.int x1]) (rest := []) hx (fun G sz hR => ctX5_isThread (xl x) (xD x) w G sz hR x1  hcl_1) my_X5_isThread ml_X1_44 ⟨by decide, by decide⟩ ⟨by decide, by decide⟩ rfl rfl (Nat.le_of_ble_eq_true rfl) dX1_rowOf_1 rfl ?_
  refine v_if_eq (tgt := 16) (pc' := 7) hx dX1_rowOf_4 (by decide) rfl (fun hc_4 => ?_) (fun hc_4 => ?_)
  · rw [if_pos hc_4] at h
    refine v_null (pc' := 17) hx dX1_rowOf_16 rfl ?_
    refine V.sb (L' := [none, none]) ⟨Or.inl rfl, Or.inl rfl, trivial⟩ ?_
    exact vX1_rowOf_b17 hx hq (fun b hb => by cases hb) h
  · rw [if_neg hc_4] at h
    refine v_aload_n (pc' := 8) hx dX1_rowOf_7 rfl rfl ?_
    obtain ⟨g_5, hq_6⟩ : ∃ q, zA w 1 a0 1 = q := ⟨_, rfl⟩
    refine v_getAq (pc' := 11) hx hl0 fi_1_1.1 (by decide) hq_6 fk_X1_17 dX1_rowOf_8 rfl ?_
    refine v_iload_n (pc' := 12) hx dX1_rowOf_11 rfl rfl ?_
    replace h := ckp_inv h; obtain ⟨hk_7, h⟩ := h
    refine v_aaldq (pc' := 13) hx hl0 fi_1_1.1 fi_1_1.2.2 rfl hk_7 hq_6 dX1_rowOf_12 rfl ?_
    replace h := lt_inv h; obtain ⟨u_8, er_9, h⟩ := h
    rw [← er_9]
    refine v_liv hl0 (fun ht_10 => ?_)
    have hl_11 : ∀ b, u_8 = some b → zL w 2 b = true := fun b hb => ht_10 1 _ b (er_9.symm.trans hb)
    refine v_goto (tgt := 17) hx dX1_rowOf_13 (by decide) ?_
    refine V.sb (L' := [none, none]) ⟨Or.inl rfl, Or.inl rfl, trivial⟩ ?_
    exact vX1_rowOf_b17 hx hq hl_11 h
theorem ctX1_rowOf (l : Launch) (D : DD) (w : Wd) (G : GT) (sz : Nat) (hR : Rp D w G sz) (a0 : Nat) (x1 : Int32) (hl0 : zL w 1 a0 = true) {r0 : Option Nat} (h : fX1_rowOf a0 x1 w = some r0) : MetQ l yX1_rowOf (WS yX1_rowOf cX1_rowOf 2 (some (.object "StuckHands$Row"))) rmX1_rowOf D [.ref a0, .int x1] G sz 2 r0 w := by
  refine MetQ_ofV (own := RX1) (P := Rp D w) hR (by decide) rfl (by simp [Value.category]) (Nat.le_of_ble_eq_true rfl) (fun x hx hq hD hl => ?_)
  subst hD
  exact vX1_rowOf hx hq a0 x1 hl0 h
theorem kX3_readThread_b61 {r0 : Int32} {w0 : Wd} {xs0 : Int32} {w wb : Wd} (hm : mo wb w) (h : fX3_readThread_b61 xs0 w = some (r0, w0)) : mo wb w0 := by
  unfold fX3_readThread_b61 at h
  replace h := ckp_inv h; obtain ⟨hk_1, h⟩ := h
  cases h; exact hm
theorem kX3_readThread_b48 {r0 : Int32} {w0 : Wd} {a1 : Nat} {w wb : Wd} (hm : mo wb w) (h : fX3_readThread_b48 a1 w = some (r0, w0)) : mo wb w0 := by
  unfold fX3_readThread_b48 at h
  by_cases hc_1 : (zI w 2 a1 1 0) = (-1)
  · rw [if_pos hc_1] at h
    exact kX3_readThread_b61 hm h
  · rw [if_neg hc_1] at h
    exact kX3_readThread_b61 hm h
theorem kX3_readThread {r0 : Int32} {w0 : Wd} {a0 : Nat} {a1 : Nat} {w : Wd} (h : fX3_readThread a0 a1 w = some (r0, w0)) : mo w w0 := by
  have hm := mo_rf w
  unfold fX3_readThread at h
  replace h := lt_inv h; obtain ⟨u_1, er_2, h⟩ := h
  replace h := nn_inv h; obtain ⟨b_5, rfl, h⟩ := h
  replace h := lt_inv h; obtain ⟨u_7, er_8, h⟩ := h
  replace h := nn_inv h; obtain ⟨b_11, rfl, h⟩ := h
  replace h := bd2_inv h; obtain ⟨y_14, w_15, hcl_13, h⟩ := h
  have hm := hm.tr (kX4_takeNumber hcl_13)
  replace h := lt_inv h; obtain ⟨w_21, ew_22, h⟩ := h
  have hm := mo_eI hm ew_22
  replace h := lt_inv h; obtain ⟨u_26, er_27, h⟩ := h
  replace h := nn_inv h; obtain ⟨b_30, rfl, h⟩ := h
  replace h := bd_inv h; obtain ⟨u_33, hcl_32, h⟩ := h
  rcases u_33 with _ | b_35
  · rw [oc_n] at h
    exact kX3_readThread_b48 hm h
  · rw [oc_s] at h
    replace h := lt_inv h; obtain ⟨u_38, er_39, h⟩ := h
    replace h := nn_inv h; obtain ⟨b_42, rfl, h⟩ := h
    replace h := bd2_inv h; obtain ⟨y_45, w_46, hcl_44, h⟩ := h
    have hm := hm.tr (kX4_tearAt hcl_44)
    replace h := lt_inv h; obtain ⟨w_51, ew_52, h⟩ := h
    have hm := mo_eI hm ew_52
    exact kX3_readThread_b48 hm h
theorem vX3_readThread_b61 {x : CT} (hx : CX x cX3_readThread RX3 rmX3_readThread (some .boolean)) {r0 : Int32} {w0 : Wd} (hq : RI x rmX3_readThread r0 w0) {xs0 : Int32} {w : Wd} (h : fX3_readThread_b61 xs0 w = some (r0, w0)) : V x 61 [none, none, none] [.int xs0] (Rp (xD x) w) 0 0 := by
  unfold fX3_readThread_b61 at h
  replace h := ckp_inv h; obtain ⟨hk_1, h⟩ := h
  exact v_zret hx hq (by decide) (by decide) dX3_readThread_61 hk_1 (by cases h; rfl)
theorem vX3_readThread_b48 {x : CT} (hx : CX x cX3_readThread RX3 rmX3_readThread (some .boolean)) {r0 : Int32} {w0 : Wd} (hq : RI x rmX3_readThread r0 w0) {a1 : Nat} {w : Wd} (hl1 : zL w 2 a1 = true) (h : fX3_readThread_b48 a1 w = some (r0, w0)) : V x 48 [none, some (.ref a1), none] [] (Rp (xD x) w) 0 0 := by
  unfold fX3_readThread_b48 at h
  refine v_aload_n (pc' := 49) hx dX3_readThread_48 rfl rfl ?_
  refine v_getI (pc' := 52) hx hl1 fi_2_1.1 fi_2_1.2.1 fk_X3_71 dX3_readThread_49 rfl ?_
  refine v_iconst (pc' := 53) (v := (-1)) hx dX3_readThread_52 (by decide) rfl ?_
  refine v_icmp_eq (tgt := 60) (pc' := 56) hx dX3_readThread_53 (by decide) rfl (fun hc_1 => ?_) (fun hc_1 => ?_)
  · rw [if_pos hc_1] at h
    refine v_iconst (pc' := 61) (v := 0) hx dX3_readThread_60 (by decide) rfl ?_
    refine V.sb (L' := [none, none, none]) ⟨Or.inl rfl, Or.inl rfl, Or.inl rfl, trivial⟩ ?_
    exact vX3_readThread_b61 hx hq h
  · rw [if_neg hc_1] at h
    refine v_iconst (pc' := 57) (v := 1) hx dX3_readThread_56 (by decide) rfl ?_
    refine v_goto (tgt := 61) hx dX3_readThread_57 (by decide) ?_
    refine V.sb (L' := [none, none, none]) ⟨Or.inl rfl, Or.inl rfl, Or.inl rfl, trivial⟩ ?_
    exact vX3_readThread_b61 hx hq h
theorem vX3_readThread {x : CT} (hx : CX x cX3_readThread RX3 rmX3_readThread (some .boolean)) {r0 : Int32} {w0 : Wd} {w : Wd} (hq : RI x rmX3_readThread r0 w0) (a0 : Nat) (a1 : Nat) (hl0 : zL w 3 a0 = true) (hl1 : zL w 2 a1 = true) (h : fX3_readThread a0 a1 w = some (r0, w0)) : V x 0 [some (.ref a0), some (.ref a1), none] [] (Rp (xD x) w) 0 0 := by
  unfold fX3_readThread at h
  refine v_aload_n (pc' := 1) hx dX3_readThread_0 rfl rfl ?_
  refine v_getR (pc' := 4) hx hl0 fi_3_0.1 fi_3_0.2.1 fk_X3_9 dX3_readThread_1 rfl ?_
  replace h := lt_inv h; obtain ⟨u_1, er_2, h⟩ := h
  rw [← er_2]
  refine v_liv hl0 (fun ht_3 => ?_)
  have hl_4 : ∀ b, u_1 = some b → zL w 4 b = true := fun b hb => ht_3 0 _ b (er_2.symm.trans hb)
  replace h := nn_inv h; obtain ⟨b_5, rfl, h⟩ := h
  have hl_6 : zL w 4 b_5 = true := hl_4 _ rfl
  refine v_getI (pc' := 7) hx hl_6 fi_4_3.1 fi_4_3.2.1 fk_X3_32 dX3_readThread_4 rfl ?_
  refine v_istore_n (pc' := 8) (L' := [some (.ref a0), some (.ref a1), some (.int (zI w 4 b_5 3 0))]) hx dX3_readThread_7 rfl rfl (Nat.le_of_ble_eq_true rfl) ?_
  refine v_aload_n (pc' := 9) hx dX3_readThread_8 rfl rfl ?_
  refine v_aload_n (pc' := 10) hx dX3_readThread_9 rfl rfl ?_
  refine v_getR (pc' := 13) hx hl0 fi_3_0.1 fi_3_0.2.1 fk_X3_9 dX3_readThread_10 rfl ?_
  replace h := lt_inv h; obtain ⟨u_7, er_8, h⟩ := h
  rw [← er_8]
  refine v_liv hl0 (fun ht_9 => ?_)
  have hl_10 : ∀ b, u_7 = some b → zL w 4 b = true := fun b hb => ht_9 0 _ b (er_8.symm.trans hb)
  refine v_iconst (pc' := 14) (v := 2) hx dX3_readThread_13 (by decide) rfl ?_
  refine v_bipush (pc' := 16) (v := 23) hx dX3_readThread_14 (by decide) rfl ?_
  replace h := nn_inv h; obtain ⟨b_11, rfl, h⟩ := h
  have hl_12 : zL w 4 b_11 = true := hl_10 _ rfl
  replace h := bd2_inv h; obtain ⟨y_14, w_15, hcl_13, h⟩ := h
  refine v_wf (fun hwf_16 => ?_)
  refine v_callVi (pc' := 19) (w' := w_15) (r := y_14) (ci := 4) (b := b_11) (As := [.int 2, .int 23]) (rest := [.ref a1]) hx hl_12 (fun G sz hR => ctX4_takeNumber (xl x) (xD x) w G sz hR b_11 2 23 hl_12 hcl_13) rfl my_X4_takeNumber ml_X3_67 ⟨by decide, by decide⟩ ⟨by decide, by decide⟩ rfl rfl (Nat.le_of_ble_eq_true rfl) dX3_readThread_16 rfl ?_
  have hm_18 := kX4_takeNumber hcl_13 hwf_16
  have hl_19 : zL w_15 3 a0 = true := (hm_18.2 _ _ hl0).1
  have hl_20 : zL w_15 2 a1 = true := (hm_18.2 _ _ hl1).1
  refine v_putI (pc' := 22) hx hl_20 fi_2_1.1 fi_2_1.2.1 fi_2_1.2.2 fk_X3_71 dX3_readThread_19 rfl ?_
  replace h := lt_inv h; obtain ⟨w_21, ew_22, h⟩ := h
  rw [← ew_22]
  have hl_23 : zL w_21 3 a0 = true := by rw [ew_22]; exact hl_19
  have hl_24 : zL w_21 2 a1 = true := by rw [ew_22]; exact hl_20
  have hwf_25 : WF w_21 := by rw [ew_22]; exact hm_18.1
  refine v_aload_n (pc' := 23) hx dX3_readThread_22 rfl rfl ?_
  refine v_getR (pc' := 26) hx hl_23 fi_3_1.1 fi_3_1.2.1 fk_X3_15 dX3_readThread_23 rfl ?_
  replace h := lt_inv h; obtain ⟨u_26, er_27, h⟩ := h
  rw [← er_27]
  refine v_liv hl_23 (fun ht_28 => ?_)
  have hl_29 : ∀ b, u_26 = some b → zL w_21 1 b = true := fun b hb => ht_28 1 _ b (er_27.symm.trans hb)
  refine v_aload_n (pc' := 27) hx dX3_readThread_26 rfl rfl ?_
  refine v_getI (pc' := 30) hx hl_24 fi_2_1.1 fi_2_1.2.1 fk_X3_71 dX3_readThread_27 rfl ?_
  replace h := nn_inv h; obtain ⟨b_30, rfl, h⟩ := h
  have hl_31 : zL w_21 1 b_30 = true := hl_29 _ rfl
  replace h := bd_inv h; obtain ⟨u_33, hcl_32, h⟩ := h
  refine v_callVq (pc' := 33) (w' := w_21) (q := u_33) (ci := 1) (b := b_30) (As := [.int (zI w_21 2 a1 1 0)]) (rest := []) hx hl_31 (fun G sz hR => ctX1_rowOf (xl x) (xD x) w_21 G sz hR b_30 (zI w_21 2 a1 1 0) hl_31 hcl_32) rfl my_X1_rowOf ml_X3_74 ⟨by decide, by decide⟩ ⟨by decide, by decide⟩ rfl rfl (Nat.le_of_ble_eq_true rfl) dX3_readThread_30 rfl (fun hl_34 => ?_)
  refine v_ifnull (tgt := 48) (pc' := 36) hx dX3_readThread_33 (by decide) rfl (fun hn_36 => ?_) (fun b_35 hn_36 => ?_)
  · subst hn_36
    rw [oc_n] at h
    refine V.sb (L' := [none, some (.ref a1), none]) ⟨Or.inl rfl, Or.inr rfl, Or.inl rfl, trivial⟩ ?_
    exact vX3_readThread_b48 hx hq hl_24 h
  · subst hn_36
    rw [oc_s] at h
    have hl_37 : zL w_21 2 b_35 = true := hl_34 _ rfl
    refine v_aload_n (pc' := 37) hx dX3_readThread_36 rfl rfl ?_
    refine v_aload_n (pc' := 38) hx dX3_readThread_37 rfl rfl ?_
    refine v_getR (pc' := 41) hx hl_23 fi_3_0.1 fi_3_0.2.1 fk_X3_9 dX3_readThread_38 rfl ?_
    replace h := lt_inv h; obtain ⟨u_38, er_39, h⟩ := h
    rw [← er_39]
    refine v_liv hl_23 (fun ht_40 => ?_)
    have hl_41 : ∀ b, u_38 = some b → zL w_21 4 b = true := fun b hb => ht_40 0 _ b (er_39.symm.trans hb)
    refine v_iload_n (pc' := 42) hx dX3_readThread_41 rfl rfl ?_
    replace h := nn_inv h; obtain ⟨b_42, rfl, h⟩ := h
    have hl_43 : zL w_21 4 b_42 = true := hl_41 _ rfl
    replace h := bd2_inv h; obtain ⟨y_45, w_46, hcl_44, h⟩ := h
    refine v_callVi (pc' := 45) (w' := w_46) (r := y_45) (ci := 4) (b := b_42) (As := [.int (zI w 4 b_5 3 0)]) (rest := [.ref a1]) hx hl_43 (fun G sz hR => ctX4_tearAt (xl x) (xD x) w_21 G sz hR b_42 (zI w 4 b_5 3 0) hl_43 hcl_44) rfl my_X4_tearAt ml_X3_78 ⟨by decide, by decide⟩ ⟨by decide, by decide⟩ rfl rfl (Nat.le_of_ble_eq_true rfl) dX3_readThread_42 rfl ?_
    have hm_48 := kX4_tearAt hcl_44 hwf_25
    have hl_49 : zL w_46 3 a0 = true := (hm_48.2 _ _ hl_23).1
    have hl_50 : zL w_46 2 a1 = true := (hm_48.2 _ _ hl_24).1
    refine v_putI (pc' := 48) hx hl_50 fi_2_1.1 fi_2_1.2.1 fi_2_1.2.2 fk_X3_71 dX3_readThread_45 rfl ?_
    replace h := lt_inv h; obtain ⟨w_51, ew_52, h⟩ := h
    rw [← ew_52]
    have hl_53 : zL w_51 3 a0 = true := by rw [ew_52]; exact hl_49
    have hl_54 : zL w_51 2 a1 = true := by rw [ew_52]; exact hl_50
    have hwf_55 : WF w_51 := by rw [ew_52]; exact hm_48.1
    refine V.sb (L' := [none, some (.ref a1), none]) ⟨Or.inl rfl, Or.inr rfl, Or.inl rfl, trivial⟩ ?_
    exact vX3_readThread_b48 hx hq hl_54 h
theorem ctX3_readThread (l : Launch) (D : DD) (w : Wd) (G : GT) (sz : Nat) (hR : Rp D w G sz) (a0 : Nat) (a1 : Nat) (hl0 : zL w 3 a0 = true) (hl1 : zL w 2 a1 = true) {r0 : Int32} {w0 : Wd} (h : fX3_readThread a0 a1 w = some (r0, w0)) : MetI l yX3_readThread (WS yX3_readThread cX3_readThread 3 (some .boolean)) rmX3_readThread D [.ref a0, .ref a1] G sz r0 w0 := by
  refine MetI_ofV (own := RX3) (P := Rp D w) hR (by decide) rfl (by simp [Value.category]) (Nat.le_of_ble_eq_true rfl) (fun x hx hq hD hl => ?_)
  subst hD
  exact vX3_readThread hx hq a0 a1 hl0 hl1 h
