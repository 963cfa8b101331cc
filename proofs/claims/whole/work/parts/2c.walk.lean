theorem kX3_readRow_b63 {r0 : Int32} {w0 : Wd} {xs0 : Int32} {w wb : Wd} (hm : mo wb w) (h : fX3_readRow_b63 xs0 w = some (r0, w0)) : mo wb w0 := by
  unfold fX3_readRow_b63 at h
  replace h := ckp_inv h; obtain ⟨hk_1, h⟩ := h
  cases h; exact hm
theorem kX3_readRow_b62 {r0 : Int32} {w0 : Wd} {w wb : Wd} (hm : mo wb w) (h : fX3_readRow_b62 w = some (r0, w0)) : mo wb w0 := by
  unfold fX3_readRow_b62 at h
  exact kX3_readRow_b63 hm h
theorem kX3_readRow {r0 : Int32} {w0 : Wd} {a0 : Nat} {a1 : Nat} {w : Wd} (h : fX3_readRow a0 a1 w = some (r0, w0)) : mo w w0 := by
  have hm := mo_rf w
  unfold fX3_readRow at h
  replace h := bd2_inv h; obtain ⟨y_2, w_3, hcl_1, h⟩ := h
  have hm := hm.tr (kX3_readThread hcl_1)
  by_cases hc_9 : y_2 = 0
  · rw [if_pos hc_9] at h
    exact kX3_readRow_b62 hm h
  · rw [if_neg hc_9] at h
    replace h := bd2_inv h; obtain ⟨y_11, w_12, hcl_10, h⟩ := h
    have hm := hm.tr (kX3_readState hcl_10)
    by_cases hc_17 : y_11 = 0
    · rw [if_pos hc_17] at h
      exact kX3_readRow_b62 hm h
    · rw [if_neg hc_17] at h
      replace h := bd2_inv h; obtain ⟨y_19, w_20, hcl_18, h⟩ := h
      have hm := hm.tr (kX3_readCounter hcl_18)
      by_cases hc_25 : y_19 = 0
      · rw [if_pos hc_25] at h
        exact kX3_readRow_b62 hm h
      · rw [if_neg hc_25] at h
        replace h := bd2_inv h; obtain ⟨y_27, w_28, hcl_26, h⟩ := h
        have hm := hm.tr (kX3_readHeld hcl_26)
        by_cases hc_33 : y_27 = 0
        · rw [if_pos hc_33] at h
          exact kX3_readRow_b62 hm h
        · rw [if_neg hc_33] at h
          replace h := bd2_inv h; obtain ⟨y_35, w_36, hcl_34, h⟩ := h
          have hm := hm.tr (kX3_readWait hcl_34)
          by_cases hc_41 : y_35 = 0
          · rw [if_pos hc_41] at h
            exact kX3_readRow_b62 hm h
          · rw [if_neg hc_41] at h
            replace h := bd2_inv h; obtain ⟨y_43, w_44, hcl_42, h⟩ := h
            have hm := hm.tr (kX3_readCalls hcl_42)
            by_cases hc_49 : y_43 = 0
            · rw [if_pos hc_49] at h
              exact kX3_readRow_b62 hm h
            · rw [if_neg hc_49] at h
              replace h := lt_inv h; obtain ⟨u_50, er_51, h⟩ := h
              replace h := nn_inv h; obtain ⟨b_54, rfl, h⟩ := h
              replace h := bd_inv h; obtain ⟨y_57, hcl_56, h⟩ := h
              by_cases hc_59 : y_57 = 0
              · rw [if_pos hc_59] at h
                exact kX3_readRow_b62 hm h
              · rw [if_neg hc_59] at h
                exact kX3_readRow_b63 hm h
theorem vX3_readRow_b63 {x : CT} (hx : CX x cX3_readRow RX3 rmX3_readRow (some .boolean)) {r0 : Int32} {w0 : Wd} (hq : RI x rmX3_readRow r0 w0) {xs0 : Int32} {w : Wd} (h : fX3_readRow_b63 xs0 w = some (r0, w0)) : V x 63 [none, none] [.int xs0] (Rp (xD x) w) 0 0 := by
  unfold fX3_readRow_b63 at h
  replace h := ckp_inv h; obtain ⟨hk_1, h⟩ := h
  exact v_zret hx hq (by decide) (by decide) dX3_readRow_63 hk_1 (by cases h; rfl)
theorem vX3_readRow_b62 {x : CT} (hx : CX x cX3_readRow RX3 rmX3_readRow (some .boolean)) {r0 : Int32} {w0 : Wd} (hq : RI x rmX3_readRow r0 w0) {w : Wd} (h : fX3_readRow_b62 w = some (r0, w0)) : V x 62 [none, none] [] (Rp (xD x) w) 0 0 := by
  unfold fX3_readRow_b62 at h
  refine v_iconst (pc' := 63) (v := 0) hx dX3_readRow_62 (by decide) rfl ?_
  exact vX3_readRow_b63 hx hq h
theorem vX3_readRow {x : CT} (hx : CX x cX3_readRow RX3 rmX3_readRow (some .boolean)) {r0 : Int32} {w0 : Wd} {w : Wd} (hq : RI x rmX3_readRow r0 w0) (a0 : Nat) (a1 : Nat) (hl0 : zL w 3 a0 = true) (hl1 : zL w 2 a1 = true) (h : fX3_readRow a0 a1 w = some (r0, w0)) : V x 0 [some (.ref a0), some (.ref a1)] [] (Rp (xD x) w) 0 0 := by
  unfold fX3_readRow at h
  refine v_aload_n (pc' := 1) hx dX3_readRow_0 rfl rfl ?_
  refine v_aload_n (pc' := 2) hx dX3_readRow_1 rfl rfl ?_
  replace h := bd2_inv h; obtain ⟨y_2, w_3, hcl_1, h⟩ := h
  refine v_wf (fun hwf_4 => ?_)
  refine v_callVi (pc' := 5) (w' := w_3) (r := y_2) (ci := 3) (b := a0) (As := [.ref a1]) (rest := []) hx hl0 (fun G sz hR => ctX3_readThread (xl x) (xD x) w G sz hR a0 a1 hl0 hl1 hcl_1) rfl my_X3_readThread ml_X3_45 ⟨by decide, by decide⟩ ⟨by decide, by decide⟩ rfl rfl (Nat.le_of_ble_eq_true rfl) dX3_readRow_2 rfl ?_
  have hm_6 := kX3_readThread hcl_1 hwf_4
  have hl_7 : zL w_3 3 a0 = true := (hm_6.2 _ _ hl0).1
  have hl_8 : zL w_3 2 a1 = true := (hm_6.2 _ _ hl1).1
  refine v_if_eq (tgt := 62) (pc' := 8) hx dX3_readRow_5 (by decide) rfl (fun hc_9 => ?_) (fun hc_9 => ?_)
  · rw [if_pos hc_9] at h
    refine V.sb (L' := [none, none]) ⟨Or.inl rfl, Or.inl rfl, trivial⟩ ?_
    exact vX3_readRow_b62 hx hq h
  · rw [if_neg hc_9] at h
    refine v_aload_n (pc' := 9) hx dX3_readRow_8 rfl rfl ?_
    refine v_aload_n (pc' := 10) hx dX3_readRow_9 rfl rfl ?_
    replace h := bd2_inv h; obtain ⟨y_11, w_12, hcl_10, h⟩ := h
    refine v_callVi (pc' := 13) (w' := w_12) (r := y_11) (ci := 3) (b := a0) (As := [.ref a1]) (rest := []) hx hl_7 (fun G sz hR => ctX3_readState (xl x) (xD x) w_3 G sz hR a0 a1 hl_7 hl_8 hcl_10) rfl my_X3_readState ml_X3_48 ⟨by decide, by decide⟩ ⟨by decide, by decide⟩ rfl rfl (Nat.le_of_ble_eq_true rfl) dX3_readRow_10 rfl ?_
    have hm_14 := kX3_readState hcl_10 hm_6.1
    have hl_15 : zL w_12 3 a0 = true := (hm_14.2 _ _ hl_7).1
    have hl_16 : zL w_12 2 a1 = true := (hm_14.2 _ _ hl_8).1
    refine v_if_eq (tgt := 62) (pc' := 16) hx dX3_readRow_13 (by decide) rfl (fun hc_17 => ?_) (fun hc_17 => ?_)
    · rw [if_pos hc_17] at h
      refine V.sb (L' := [none, none]) ⟨Or.inl rfl, Or.inl rfl, trivial⟩ ?_
      exact vX3_readRow_b62 hx hq h
    · rw [if_neg hc_17] at h
      refine v_aload_n (pc' := 17) hx dX3_readRow_16 rfl rfl ?_
      refine v_aload_n (pc' := 18) hx dX3_readRow_17 rfl rfl ?_
      replace h := bd2_inv h; obtain ⟨y_19, w_20, hcl_18, h⟩ := h
      refine v_callVi (pc' := 21) (w' := w_20) (r := y_19) (ci := 3) (b := a0) (As := [.ref a1]) (rest := []) hx hl_15 (fun G sz hR => ctX3_readCounter (xl x) (xD x) w_12 G sz hR a0 a1 hl_15 hl_16 hcl_18) rfl my_X3_readCounter ml_X3_51 ⟨by decide, by decide⟩ ⟨by decide, by decide⟩ rfl rfl (Nat.le_of_ble_eq_true rfl) dX3_readRow_18 rfl ?_
      have hm_22 := kX3_readCounter hcl_18 hm_14.1
      have hl_23 : zL w_20 3 a0 = true := (hm_22.2 _ _ hl_15).1
      have hl_24 : zL w_20 2 a1 = true := (hm_22.2 _ _ hl_16).1
      refine v_if_eq (tgt := 62) (pc' := 24) hx dX3_readRow_21 (by decide) rfl (fun hc_25 => ?_) (fun hc_25 => ?_)
      · rw [if_pos hc_25] at h
        refine V.sb (L' := [none, none]) ⟨Or.inl rfl, Or.inl rfl, trivial⟩ ?_
        exact vX3_readRow_b62 hx hq h
      · rw [if_neg hc_25] at h
        refine v_aload_n (pc' := 25) hx dX3_readRow_24 rfl rfl ?_
        refine v_aload_n (pc' := 26) hx dX3_readRow_25 rfl rfl ?_
        replace h := bd2_inv h; obtain ⟨y_27, w_28, hcl_26, h⟩ := h
        refine v_callVi (pc' := 29) (w' := w_28) (r := y_27) (ci := 3) (b := a0) (As := [.ref a1]) (rest := []) hx hl_23 (fun G sz hR => ctX3_readHeld (xl x) (xD x) w_20 G sz hR a0 a1 hl_23 hl_24 hcl_26) rfl my_X3_readHeld ml_X3_54 ⟨by decide, by decide⟩ ⟨by decide, by decide⟩ rfl rfl (Nat.le_of_ble_eq_true rfl) dX3_readRow_26 rfl ?_
        have hm_30 := kX3_readHeld hcl_26 hm_22.1
        have hl_31 : zL w_28 3 a0 = true := (hm_30.2 _ _ hl_23).1
        have hl_32 : zL w_28 2 a1 = true := (hm_30.2 _ _ hl_24).1
        refine v_if_eq (tgt := 62) (pc' := 32) hx dX3_readRow_29 (by decide) rfl (fun hc_33 => ?_) (fun hc_33 => ?_)
        · rw [if_pos hc_33] at h
          refine V.sb (L' := [none, none]) ⟨Or.inl rfl, Or.inl rfl, trivial⟩ ?_
          exact vX3_readRow_b62 hx hq h
        · rw [if_neg hc_33] at h
          refine v_aload_n (pc' := 33) hx dX3_readRow_32 rfl rfl ?_
          refine v_aload_n (pc' := 34) hx dX3_readRow_33 rfl rfl ?_
          replace h := bd2_inv h; obtain ⟨y_35, w_36, hcl_34, h⟩ := h
          refine v_callVi (pc' := 37) (w' := w_36) (r := y_35) (ci := 3) (b := a0) (As := [.ref a1]) (rest := []) hx hl_31 (fun G sz hR => ctX3_readWait (xl x) (xD x) w_28 G sz hR a0 a1 hl_31 hl_32 hcl_34) rfl my_X3_readWait ml_X3_57 ⟨by decide, by decide⟩ ⟨by decide, by decide⟩ rfl rfl (Nat.le_of_ble_eq_true rfl) dX3_readRow_34 rfl ?_
          have hm_38 := kX3_readWait hcl_34 hm_30.1
          have hl_39 : zL w_36 3 a0 = true := (hm_38.2 _ _ hl_31).1
          have hl_40 : zL w_36 2 a1 = true := (hm_38.2 _ _ hl_32).1
          refine v_if_eq (tgt := 62) (pc' := 40) hx dX3_readRow_37 (by decide) rfl (fun hc_41 => ?_) (fun hc_41 => ?_)
          · rw [if_pos hc_41] at h
            refine V.sb (L' := [none, none]) ⟨Or.inl rfl, Or.inl rfl, trivial⟩ ?_
            exact vX3_readRow_b62 hx hq h
          · rw [if_neg hc_41] at h
            refine v_aload_n (pc' := 41) hx dX3_readRow_40 rfl rfl ?_
            refine v_aload_n (pc' := 42) hx dX3_readRow_41 rfl rfl ?_
            replace h := bd2_inv h; obtain ⟨y_43, w_44, hcl_42, h⟩ := h
            refine v_callVi (pc' := 45) (w' := w_44) (r := y_43) (ci := 3) (b := a0) (As := [.ref a1]) (rest := []) hx hl_39 (fun G sz hR => ctX3_readCalls (xl x) (xD x) w_36 G sz hR a0 a1 hl_39 hl_40 hcl_42) rfl my_X3_readCalls ml_X3_60 ⟨by decide, by decide⟩ ⟨by decide, by decide⟩ rfl rfl (Nat.le_of_ble_eq_true rfl) dX3_readRow_42 rfl ?_
            have hm_46 := kX3_readCalls hcl_42 hm_38.1
            have hl_47 : zL w_44 3 a0 = true := (hm_46.2 _ _ hl_39).1
            have hl_48 : zL w_44 2 a1 = true := (hm_46.2 _ _ hl_40).1
            refine v_if_eq (tgt := 62) (pc' := 48) hx dX3_readRow_45 (by decide) rfl (fun hc_49 => ?_) (fun hc_49 => ?_)
            · rw [if_pos hc_49] at h
              refine V.sb (L' := [none, none]) ⟨Or.inl rfl, Or.inl rfl, trivial⟩ ?_
              exact vX3_readRow_b62 hx hq h
            · rw [if_neg hc_49] at h
              refine v_aload_n (pc' := 49) hx dX3_readRow_48 rfl rfl ?_
              refine v_getR (pc' := 52) hx hl_47 fi_3_0.1 fi_3_0.2.1 fk_X3_9 dX3_readRow_49 rfl ?_
              replace h := lt_inv h; obtain ⟨u_50, er_51, h⟩ := h
              rw [← er_51]
              refine v_liv hl_47 (fun ht_52 => ?_)
              have hl_53 : ∀ b, u_50 = some b → zL w_44 4 b = true := fun b hb => ht_52 0 _ b (er_51.symm.trans hb)
              replace h := nn_inv h; obtain ⟨b_54, rfl, h⟩ := h
              have hl_55 : zL w_44 4 b_54 = true := hl_53 _ rfl
              replace h := bd_inv h; obtain ⟨y_57, hcl_56, h⟩ := h
              refine v_callVi (pc' := 55) (w' := w_44) (r := y_57) (ci := 4) (b := b_54) (As := []) (rest := []) hx hl_55 (fun G sz hR => ctX4_isAtEndOfPart (xl x) (xD x) w_44 G sz hR b_54 hl_55 hcl_56) rfl my_X4_isAtEndOfPart ml_X3_63 ⟨by decide, by decide⟩ ⟨by decide, by decide⟩ rfl rfl (Nat.le_of_ble_eq_true rfl) dX3_readRow_52 rfl ?_
              refine v_if_eq (tgt := 62) (pc' := 58) hx dX3_readRow_55 (by decide) rfl (fun hc_59 => ?_) (fun hc_59 => ?_)
              · rw [if_pos hc_59] at h
                refine V.sb (L' := [none, none]) ⟨Or.inl rfl, Or.inl rfl, trivial⟩ ?_
                exact vX3_readRow_b62 hx hq h
              · rw [if_neg hc_59] at h
                refine v_iconst (pc' := 59) (v := 1) hx dX3_readRow_58 (by decide) rfl ?_
                refine v_goto (tgt := 63) hx dX3_readRow_59 (by decide) ?_
                refine V.sb (L' := [none, none]) ⟨Or.inl rfl, Or.inl rfl, trivial⟩ ?_
                exact vX3_readRow_b63 hx hq h
theorem ctX3_readRow (l : Launch) (D : DD) (w : Wd) (G : GT) (sz : Nat) (hR : Rp D w G sz) (a0 : Nat) (a1 : Nat) (hl0 : zL w 3 a0 = true) (hl1 : zL w 2 a1 = true) {r0 : Int32} {w0 : Wd} (h : fX3_readRow a0 a1 w = some (r0, w0)) : MetI l yX3_readRow (WS yX3_readRow cX3_readRow 2 (some .boolean)) rmX3_readRow D [.ref a0, .ref a1] G sz r0 w0 := by
  refine MetI_ofV (own := RX3) (P := Rp D w) hR (by decide) rfl (by simp [Value.category]) (Nat.le_of_ble_eq_true rfl) (fun x hx hq hD hl => ?_)
  subst hD
  exact vX3_readRow hx hq a0 a1 hl0 hl1 h
theorem kX2_distanceTo_b80 {r0 : Int32} {w0 : Wd} {rec22 : Nat → Nat → Nat → Int32 → Wd → Option (Int32 × Wd)} {rec42 : Nat → Nat → Nat → Int32 → Int32 → Int32 → Wd → Option (Int32 × Wd)} {a0 : Nat} {a1 : Nat} {o2 : Nat} {x3 : Int32} {x5 : Int32} {xs0 : Int32} {w wb : Wd} (hkr22 : ∀ (a0 : Nat) (a1 : Nat) (o2 : Nat) (x3 : Int32) (w : Wd), rec22 a0 a1 o2 x3 w = some (r0, w0) → mo wb w → mo wb w0) (hkr42 : ∀ (a0 : Nat) (a1 : Nat) (o2 : Nat) (x3 : Int32) (x4 : Int32) (x5 : Int32) (w : Wd), rec42 a0 a1 o2 x3 x4 x5 w = some (r0, w0) → mo wb w → mo wb w0) (hm : mo wb w) (h : fX2_distanceTo_b80 rec22 rec42 a0 a1 o2 x3 x5 xs0 w = some (r0, w0)) : mo wb w0 := by
  unfold fX2_distanceTo_b80 at h
  replace h := ckp_inv h; obtain ⟨hk_1, h⟩ := h
  replace h := ckp_inv h; obtain ⟨hk_2, h⟩ := h
  replace h := bd_inv h; obtain ⟨y_4, hcl_3, h⟩ := h
  replace h := bd_inv h; obtain ⟨y_7, hcl_6, h⟩ := h
  replace h := ckp_inv h; obtain ⟨hk_9, h⟩ := h
  replace h := lt_inv h; obtain ⟨w_10, ew_11, h⟩ := h
  have hm := mo_eI hm ew_11
  exact hkr42 a0 a1 o2 x3 (zI w 1 o2 6 (x5 : Int32).toNatClampNeg) (x5 + 1) w_10 h hm
theorem kX2_distanceTo_b42 {r0 : Int32} {w0 : Wd} {rec22 : Nat → Nat → Nat → Int32 → Wd → Option (Int32 × Wd)} {rec42 : Nat → Nat → Nat → Int32 → Int32 → Int32 → Wd → Option (Int32 × Wd)} {a0 : Nat} {a1 : Nat} {o2 : Nat} {x3 : Int32} {x4 : Int32} {x5 : Int32} {w wb : Wd} (hkr22 : ∀ (a0 : Nat) (a1 : Nat) (o2 : Nat) (x3 : Int32) (w : Wd), rec22 a0 a1 o2 x3 w = some (r0, w0) → mo wb w → mo wb w0) (hkr42 : ∀ (a0 : Nat) (a1 : Nat) (o2 : Nat) (x3 : Int32) (x4 : Int32) (x5 : Int32) (w : Wd), rec42 a0 a1 o2 x3 x4 x5 w = some (r0, w0) → mo wb w → mo wb w0) (hm : mo wb w) (h : fX2_distanceTo_b42 rec22 rec42 a0 a1 o2 x3 x4 x5 w = some (r0, w0)) : mo wb w0 := by
  unfold fX2_distanceTo_b42 at h
  by_cases hc_1 : (zI w 2 a1 6 0) < x5
  · rw [if_pos hc_1] at h
    exact hkr22 a0 a1 o2 (x3 + 1) w h hm
  · rw [if_neg hc_1] at h
    replace h := ckp_inv h; obtain ⟨hk_4, h⟩ := h
    replace h := ckp_inv h; obtain ⟨hk_7, h⟩ := h
    by_cases hc_8 : (zI w 2 a0 0 ((x3 - 1) : Int32).toNatClampNeg) = (zI w 2 a1 0 ((x5 - 1) : Int32).toNatClampNeg)
    · rw [if_pos hc_8] at h
      exact kX2_distanceTo_b80 hkr22 hkr42 hm h
    · rw [if_neg hc_8] at h
      exact kX2_distanceTo_b80 hkr22 hkr42 hm h
theorem kX2_distanceTo_l42 {r0 : Int32} {w0 : Wd} {rec22 : Nat → Nat → Nat → Int32 → Wd → Option (Int32 × Wd)} {wb : Wd} (hkr22 : ∀ (a0 : Nat) (a1 : Nat) (o2 : Nat) (x3 : Int32) (w : Wd), rec22 a0 a1 o2 x3 w = some (r0, w0) → mo wb w → mo wb w0) : ∀ (n : Nat) (a0 : Nat) (a1 : Nat) (o2 : Nat) (x3 : Int32) (x4 : Int32) (x5 : Int32) (w : Wd), mo wb w → fX2_distanceTo_l42 rec22 n a0 a1 o2 x3 x4 x5 w = some (r0, w0) → mo wb w0 := by
  intro n
  induction n with
  | zero => intro a0 a1 o2 x3 x4 x5 w hm h; cases h
  | succ n ih =>
    intro a0 a1 o2 x3 x4 x5 w hm h
    exact kX2_distanceTo_b42 hkr22 (fun a0 a1 o2 x3 x4 x5 w h hm => ih a0 a1 o2 x3 x4 x5 w hm h) hm h
theorem kX2_distanceTo_b22 {r0 : Int32} {w0 : Wd} {rec22 : Nat → Nat → Nat → Int32 → Wd → Option (Int32 × Wd)} {a0 : Nat} {a1 : Nat} {o2 : Nat} {x3 : Int32} {w wb : Wd} (hkr22 : ∀ (a0 : Nat) (a1 : Nat) (o2 : Nat) (x3 : Int32) (w : Wd), rec22 a0 a1 o2 x3 w = some (r0, w0) → mo wb w → mo wb w0) (hm : mo wb w) (h : fX2_distanceTo_b22 rec22 a0 a1 o2 x3 w = some (r0, w0)) : mo wb w0 := by
  unfold fX2_distanceTo_b22 at h
  by_cases hc_1 : (zI w 2 a0 6 0) < x3
  · rw [if_pos hc_1] at h
    replace h := ckp_inv h; obtain ⟨hk_2, h⟩ := h
    cases h; exact hm
  · rw [if_neg hc_1] at h
    replace h := ckp_inv h; obtain ⟨hk_3, h⟩ := h
    replace h := ckp_inv h; obtain ⟨hk_4, h⟩ := h
    replace h := lt_inv h; obtain ⟨w_5, ew_6, h⟩ := h
    have hm := mo_eI hm ew_6
    exact kX2_distanceTo_l42 hkr22 1000 a0 a1 o2 x3 (zI w 1 o2 6 (0 : Int32).toNatClampNeg) 1 w_5 hm h
theorem kX2_distanceTo_l22 {r0 : Int32} {w0 : Wd} {wb : Wd} : ∀ (n : Nat) (a0 : Nat) (a1 : Nat) (o2 : Nat) (x3 : Int32) (w : Wd), mo wb w → fX2_distanceTo_l22  n a0 a1 o2 x3 w = some (r0, w0) → mo wb w0 := by
  intro n
  induction n with
  | zero => intro a0 a1 o2 x3 w hm h; cases h
  | succ n ih =>
    intro a0 a1 o2 x3 w hm h
    exact kX2_distanceTo_b22  (fun a0 a1 o2 x3 w h hm => ih a0 a1 o2 x3 w hm h) hm h
theorem kX2_distanceTo_b2 {r0 : Int32} {w0 : Wd} {rec2 : Nat → Nat → Nat → Int32 → Wd → Option (Int32 × Wd)} {a0 : Nat} {a1 : Nat} {o2 : Nat} {x3 : Int32} {w wb : Wd} (hkr2 : ∀ (a0 : Nat) (a1 : Nat) (o2 : Nat) (x3 : Int32) (w : Wd), rec2 a0 a1 o2 x3 w = some (r0, w0) → mo wb w → mo wb w0) (hm : mo wb w) (h : fX2_distanceTo_b2 rec2 a0 a1 o2 x3 w = some (r0, w0)) : mo wb w0 := by
  unfold fX2_distanceTo_b2 at h
  by_cases hc_1 : (zI w 2 a1 6 0) < x3
  · rw [if_pos hc_1] at h
    exact kX2_distanceTo_l22 1000 a0 a1 o2 1 w hm h
  · rw [if_neg hc_1] at h
    replace h := ckp_inv h; obtain ⟨hk_2, h⟩ := h
    replace h := lt_inv h; obtain ⟨w_3, ew_4, h⟩ := h
    have hm := mo_eI hm ew_4
    exact hkr2 a0 a1 o2 (x3 + 1) w_3 h hm
theorem kX2_distanceTo_l2 {r0 : Int32} {w0 : Wd} {wb : Wd} : ∀ (n : Nat) (a0 : Nat) (a1 : Nat) (o2 : Nat) (x3 : Int32) (w : Wd), mo wb w → fX2_distanceTo_l2  n a0 a1 o2 x3 w = some (r0, w0) → mo wb w0 := by
  intro n
  induction n with
  | zero => intro a0 a1 o2 x3 w hm h; cases h
  | succ n ih =>
    intro a0 a1 o2 x3 w hm h
    exact kX2_distanceTo_b2  (fun a0 a1 o2 x3 w h hm => ih a0 a1 o2 x3 w hm h) hm h
theorem kX2_distanceTo {r0 : Int32} {w0 : Wd} {a0 : Nat} {a1 : Nat} {o2 : Nat} {w : Wd} (h : fX2_distanceTo a0 a1 o2 w = some (r0, w0)) : mo w w0 := by
  have hm := mo_rf w
  unfold fX2_distanceTo at h
  exact kX2_distanceTo_l2 1000 a0 a1 o2 0 w hm h
theorem vX2_distanceTo_b80 {x : CT} (hx : CX x cX2_distanceTo RX2 rmX2_distanceTo (some .int)) {r0 : Int32} {w0 : Wd} (hq : RI x rmX2_distanceTo r0 w0) {rec22 : Nat → Nat → Nat → Int32 → Wd → Option (Int32 × Wd)} {rec42 : Nat → Nat → Nat → Int32 → Int32 → Int32 → Wd → Option (Int32 × Wd)} {a0 : Nat} {a1 : Nat} {o2 : Nat} {x3 : Int32} {x5 : Int32} {xs0 : Int32} { q2 : Nat} {w : Wd} (hrec22 : ∀ (a0 : Nat) (a1 : Nat) (o2 : Nat) (x3 : Int32) (q2 : Nat) (w : Wd), rec22 a0 a1 o2 x3 w = some (r0, w0) → (zL w 2 a0 = true) → (zL w 2 a1 = true) → (zL w 1 o2 = true) → (zA w 1 o2 6 = q2) → V x 22 [some (.ref a0), some (.ref a1), some (.ref q2), some (.int x3), none, none, none] [] (Rp (xD x) w) 0 0) (hrec42 : ∀ (a0 : Nat) (a1 : Nat) (o2 : Nat) (x3 : Int32) (x4 : Int32) (x5 : Int32) (q2 : Nat) (w : Wd), rec42 a0 a1 o2 x3 x4 x5 w = some (r0, w0) → (zL w 2 a0 = true) → (zL w 2 a1 = true) → (zL w 1 o2 = true) → (zA w 1 o2 6 = q2) → V x 42 [some (.ref a0), some (.ref a1), some (.ref q2), some (.int x3), some (.int x4), some (.int x5), none] [] (Rp (xD x) w) 0 0) (hl0 : zL w 2 a0 = true) (hl1 : zL w 2 a1 = true) (hl2 : zL w 1 o2 = true) (hq2 : zA w 1 o2 6 = q2) (h : fX2_distanceTo_b80 rec22 rec42 a0 a1 o2 x3 x5 xs0 w = some (r0, w0)) : V x 80 [some (.ref a0), some (.ref a1), some (.ref q2), some (.int x3), none, some (.int x5), none] [.int xs0] (Rp (xD x) w) 0 0 := by
  unfold fX2_distanceTo_b80 at h
  refine v_istore (pc' := 82) (L' := [some (.ref a0), some (.ref a1), some (.ref q2), some (.int x3), none, some (.int x5), some (.int xs0)]) hx dX2_distanceTo_80 rfl rfl (Nat.le_of_ble_eq_true rfl) ?_
  refine v_aload_n (pc' := 83) hx dX2_distanceTo_82 rfl rfl ?_
  refine v_iload (pc' := 85) hx dX2_distanceTo_83 rfl rfl ?_
  replace h := ckp_inv h; obtain ⟨hk_1, h⟩ := h
  refine v_ialdq (pc' := 86) hx hl2 fi_1_6.1 fi_1_6.2.1 rfl hk_1 hq2 dX2_distanceTo_85 rfl ?_
  refine v_istore (pc' := 88) (L' := [some (.ref a0), some (.ref a1), some (.ref q2), some (.int x3), some (.int (zI w 1 o2 6 (x5 : Int32).toNatClampNeg)), some (.int x5), some (.int xs0)]) hx dX2_distanceTo_86 rfl rfl (Nat.le_of_ble_eq_true rfl) ?_
  refine v_aload_n (pc' := 89) hx dX2_distanceTo_88 rfl rfl ?_
  refine v_iload (pc' := 91) hx dX2_distanceTo_89 rfl rfl ?_
  refine v_iload (pc' := 93) hx dX2_distanceTo_91 rfl rfl ?_
  refine v_iload (pc' := 95) hx dX2_distanceTo_93 rfl rfl ?_
  refine v_aload_n (pc' := 96) hx dX2_distanceTo_95 rfl rfl ?_
  refine v_iload (pc' := 98) hx dX2_distanceTo_96 rfl rfl ?_
  refine v_iconst (pc' := 99) (v := 1) hx dX2_distanceTo_98 (by decide) rfl ?_
  refine v_isub (pc' := 100) hx dX2_distanceTo_99 rfl ?_
  replace h := ckp_inv h; obtain ⟨hk_2, h⟩ := h
  refine v_ialdq (pc' := 101) hx hl2 fi_1_6.1 fi_1_6.2.1 rfl hk_2 hq2 dX2_distanceTo_100 rfl ?_
  replace h := bd_inv h; obtain ⟨y_4, hcl_3, h⟩ := h
  refine v_callSi (pc' := 104) (w' := w) (r := y_4) (As := [.int (zI w 1 o2 6 (x5 : Int32).toNatClampNeg), .int (zI w 1 o2 6 ((x5 - 1) : Int32).toNatClampNeg)]) (rest := [.int xs0, .int x5, .ref q2]) hx (fun G sz hR => ctJ9_min_7cf53 (xl x) (xD x) w G sz hR (zI w 1 o2 6 (x5 : Int32).toNatClampNeg) (zI w 1 o2 6 ((x5 - 1) : Int32).toNatClampNeg)  hcl_3) my_J9_min_7cf53 ml_X2_46 ⟨by decide, by decide⟩ ⟨by decide, by decide⟩ rfl rfl (Nat.le_of_ble_eq_true rfl) dX2_distanceTo_101 rfl ?_
  refine v_iconst (pc' := 105) (v := 1) hx dX2_distanceTo_104 (by decide) rfl ?_
  refine v_iadd (pc' := 106) hx dX2_distanceTo_105 rfl ?_
  replace h := bd_inv h; obtain ⟨y_7, hcl_6, h⟩ := h
  refine v_callSi (pc' := 109) (w' := w) (r := y_7) (As := [.int xs0, .int (y_4 + 1)]) (rest := [.int x5, .ref q2]) hx (fun G sz hR => ctJ9_min_7cf53 (xl x) (xD x) w G sz hR xs0 (y_4 + 1)  hcl_6) my_J9_min_7cf53 ml_X2_46 ⟨by decide, by decide⟩ ⟨by decide, by decide⟩ rfl rfl (Nat.le_of_ble_eq_true rfl) dX2_distanceTo_106 rfl ?_
  replace h := ckp_inv h; obtain ⟨hk_9, h⟩ := h
  refine v_iastq (pc' := 110) hx hl2 fi_1_6.1 fi_1_6.2.1 rfl hk_9 hq2 dX2_distanceTo_109 rfl ?_
  replace h := lt_inv h; obtain ⟨w_10, ew_11, h⟩ := h
  rw [← ew_11]
  have hl_12 : zL w_10 2 a0 = true := by rw [ew_11]; exact hl0
  have hl_13 : zL w_10 2 a1 = true := by rw [ew_11]; exact hl1
  have hl_14 : zL w_10 1 o2 = true := by rw [ew_11]; exact hl2
  have hq_15 : zA w_10 1 o2 6 = q2 := by rw [ew_11]; exact hq2
  refine v_iinc (pc' := 113) (w0 := (x5 + 1)) (L' := [some (.ref a0), some (.ref a1), some (.ref q2), some (.int x3), some (.int (zI w 1 o2 6 (x5 : Int32).toNatClampNeg)), some (.int (x5 + 1)), some (.int xs0)]) hx dX2_distanceTo_110 rfl rfl rfl rfl ?_
  refine v_goto (tgt := 42) hx dX2_distanceTo_113 (by decide) ?_
  refine V.sb (L' := [some (.ref a0), some (.ref a1), some (.ref q2), some (.int x3), some (.int (zI w 1 o2 6 (x5 : Int32).toNatClampNeg)), some (.int (x5 + 1)), none]) ⟨Or.inr rfl, Or.inr rfl, Or.inr rfl, Or.inr rfl, Or.inr rfl, Or.inr rfl, Or.inl rfl, trivial⟩ ?_
  exact hrec42 a0 a1 o2 x3 (zI w 1 o2 6 (x5 : Int32).toNatClampNeg) (x5 + 1) q2 w_10 h hl_12 hl_13 hl_14 hq_15
theorem vX2_distanceTo_b42 {x : CT} (hx : CX x cX2_distanceTo RX2 rmX2_distanceTo (some .int)) {r0 : Int32} {w0 : Wd} (hq : RI x rmX2_distanceTo r0 w0) {rec22 : Nat → Nat → Nat → Int32 → Wd → Option (Int32 × Wd)} {rec42 : Nat → Nat → Nat → Int32 → Int32 → Int32 → Wd → Option (Int32 × Wd)} {a0 : Nat} {a1 : Nat} {o2 : Nat} {x3 : Int32} {x4 : Int32} {x5 : Int32} { q2 : Nat} {w : Wd} (hrec22 : ∀ (a0 : Nat) (a1 : Nat) (o2 : Nat) (x3 : Int32) (q2 : Nat) (w : Wd), rec22 a0 a1 o2 x3 w = some (r0, w0) → (zL w 2 a0 = true) → (zL w 2 a1 = true) → (zL w 1 o2 = true) → (zA w 1 o2 6 = q2) → V x 22 [some (.ref a0), some (.ref a1), some (.ref q2), some (.int x3), none, none, none] [] (Rp (xD x) w) 0 0) (hrec42 : ∀ (a0 : Nat) (a1 : Nat) (o2 : Nat) (x3 : Int32) (x4 : Int32) (x5 : Int32) (q2 : Nat) (w : Wd), rec42 a0 a1 o2 x3 x4 x5 w = some (r0, w0) → (zL w 2 a0 = true) → (zL w 2 a1 = true) → (zL w 1 o2 = true) → (zA w 1 o2 6 = q2) → V x 42 [some (.ref a0), some (.ref a1), some (.ref q2), some (.int x3), some (.int x4), some (.int x5), none] [] (Rp (xD x) w) 0 0) (hl0 : zL w 2 a0 = true) (hl1 : zL w 2 a1 = true) (hl2 : zL w 1 o2 = true) (hq2 : zA w 1 o2 6 = q2) (h : fX2_distanceTo_b42 rec22 rec42 a0 a1 o2 x3 x4 x5 w = some (r0, w0)) : V x 42 [some (.ref a0), some (.ref a1), some (.ref q2), some (.int x3), some (.int x4), some (.int x5), none] [] (Rp (xD x) w) 0 0 := by
  unfold fX2_distanceTo_b42 at h
  refine v_iload (pc' := 44) hx dX2_distanceTo_42 rfl rfl ?_
  refine v_aload_n (pc' := 45) hx dX2_distanceTo_44 rfl rfl ?_
  refine v_getI (pc' := 48) hx hl1 fi_2_6.1 fi_2_6.2.1 fk_X2_22 dX2_distanceTo_45 rfl ?_
  refine v_icmp_gt (tgt := 116) (pc' := 51) hx dX2_distanceTo_48 (by decide) rfl (fun hc_1 => ?_) (fun hc_1 => ?_)
  · rw [if_pos hc_1] at h
    refine v_iinc (pc' := 119) (w0 := (x3 + 1)) (L' := [some (.ref a0), some (.ref a1), some (.ref q2), some (.int (x3 + 1)), some (.int x4), some (.int x5), none]) hx dX2_distanceTo_116 rfl rfl rfl rfl ?_
    refine v_goto (tgt := 22) hx dX2_distanceTo_119 (by decide) ?_
    refine V.sb (L' := [some (.ref a0), some (.ref a1), some (.ref q2), some (.int (x3 + 1)), none, none, none]) ⟨Or.inr rfl, Or.inr rfl, Or.inr rfl, Or.inr rfl, Or.inl rfl, Or.inl rfl, Or.inl rfl, trivial⟩ ?_
    exact hrec22 a0 a1 o2 (x3 + 1) q2 w h hl0 hl1 hl2 hq2
  · rw [if_neg hc_1] at h
    refine v_aload_n (pc' := 52) hx dX2_distanceTo_51 rfl rfl ?_
    obtain ⟨g_2, hq_3⟩ : ∃ q, zA w 2 a0 0 = q := ⟨_, rfl⟩
    refine v_getAq (pc' := 55) hx hl0 fi_2_0.1 (by decide) hq_3 fk_X2_9 dX2_distanceTo_52 rfl ?_
    refine v_iload_n (pc' := 56) hx dX2_distanceTo_55 rfl rfl ?_
    refine v_iconst (pc' := 57) (v := 1) hx dX2_distanceTo_56 (by decide) rfl ?_
    refine v_isub (pc' := 58) hx dX2_distanceTo_57 rfl ?_
    replace h := ckp_inv h; obtain ⟨hk_4, h⟩ := h
    refine v_baldq (pc' := 59) hx hl0 fi_2_0.1 fi_2_0.2.1 rfl hk_4 hq_3 dX2_distanceTo_58 rfl ?_
    refine v_aload_n (pc' := 60) hx dX2_distanceTo_59 rfl rfl ?_
    obtain ⟨g_5, hq_6⟩ : ∃ q, zA w 2 a1 0 = q := ⟨_, rfl⟩
    refine v_getAq (pc' := 63) hx hl1 fi_2_0.1 (by decide) hq_6 fk_X2_9 dX2_distanceTo_60 rfl ?_
    refine v_iload (pc' := 65) hx dX2_distanceTo_63 rfl rfl ?_
    refine v_iconst (pc' := 66) (v := 1) hx dX2_distanceTo_65 (by decide) rfl ?_
    refine v_isub (pc' := 67) hx dX2_distanceTo_66 rfl ?_
    replace h := ckp_inv h; obtain ⟨hk_7, h⟩ := h
    refine v_baldq (pc' := 68) hx hl1 fi_2_0.1 fi_2_0.2.1 rfl hk_7 hq_6 dX2_distanceTo_67 rfl ?_
    refine v_icmp_ne (tgt := 76) (pc' := 71) hx dX2_distanceTo_68 (by decide) rfl (fun hc_8 => ?_) (fun hc_8 => ?_)
    · rw [if_neg hc_8] at h
      refine v_iload (pc' := 78) hx dX2_distanceTo_76 rfl rfl ?_
      refine v_iconst (pc' := 79) (v := 1) hx dX2_distanceTo_78 (by decide) rfl ?_
      refine v_iadd (pc' := 80) hx dX2_distanceTo_79 rfl ?_
      refine V.sb (L' := [some (.ref a0), some (.ref a1), some (.ref q2), some (.int x3), none, some (.int x5), none]) ⟨Or.inr rfl, Or.inr rfl, Or.inr rfl, Or.inr rfl, Or.inl rfl, Or.inr rfl, Or.inl rfl, trivial⟩ ?_
      exact vX2_distanceTo_b80 hx hq hrec22 hrec42 hl0 hl1 hl2 hq2 h
    · rw [if_pos hc_8] at h
      refine v_iload (pc' := 73) hx dX2_distanceTo_71 rfl rfl ?_
      refine v_goto (tgt := 80) hx dX2_distanceTo_73 (by decide) ?_
      refine V.sb (L' := [some (.ref a0), some (.ref a1), some (.ref q2), some (.int x3), none, some (.int x5), none]) ⟨Or.inr rfl, Or.inr rfl, Or.inr rfl, Or.inr rfl, Or.inl rfl, Or.inr rfl, Or.inl rfl, trivial⟩ ?_
      exact vX2_distanceTo_b80 hx hq hrec22 hrec42 hl0 hl1 hl2 hq2 h
theorem vX2_distanceTo_l42 {x : CT} (hx : CX x cX2_distanceTo RX2 rmX2_distanceTo (some .int)) {r0 : Int32} {w0 : Wd} (hq : RI x rmX2_distanceTo r0 w0) {rec22 : Nat → Nat → Nat → Int32 → Wd → Option (Int32 × Wd)} (hrec22 : ∀ (a0 : Nat) (a1 : Nat) (o2 : Nat) (x3 : Int32) (q2 : Nat) (w : Wd), rec22 a0 a1 o2 x3 w = some (r0, w0) → (zL w 2 a0 = true) → (zL w 2 a1 = true) → (zL w 1 o2 = true) → (zA w 1 o2 6 = q2) → V x 22 [some (.ref a0), some (.ref a1), some (.ref q2), some (.int x3), none, none, none] [] (Rp (xD x) w) 0 0) : ∀ (n : Nat) (a0 : Nat) (a1 : Nat) (o2 : Nat) (x3 : Int32) (x4 : Int32) (x5 : Int32) (q2 : Nat) (w : Wd), (zL w 2 a0 = true) → (zL w 2 a1 = true) → (zL w 1 o2 = true) → (zA w 1 o2 6 = q2) → fX2_distanceTo_l42 rec22 n a0 a1 o2 x3 x4 x5 w = some (r0, w0) → V x 42 [some (.ref a0), some (.ref a1), some (.ref q2), some (.int x3), some (.int x4), some (.int x5), none] [] (Rp (xD x) w) 0 0 := by
  intro n
  induction n with
  | zero => intro a0 a1 o2 x3 x4 x5 q2 w hl0 hl1 hl2 hq2 h; cases h
  | succ n ih =>
    intro a0 a1 o2 x3 x4 x5 q2 w hl0 hl1 hl2 hq2 h
    exact vX2_distanceTo_b42 hx hq hrec22 (fun a0 a1 o2 x3 x4 x5 q2 w h hl0 hl1 hl2 hq2 => ih a0 a1 o2 x3 x4 x5 q2 w hl0 hl1 hl2 hq2 h) hl0 hl1 hl2 hq2 h
theorem vX2_distanceTo_b22 {x : CT} (hx : CX x cX2_distanceTo RX2 rmX2_distanceTo (some .int)) {r0 : Int32} {w0 : Wd} (hq : RI x rmX2_distanceTo r0 w0) {rec22 : Nat → Nat → Nat → Int32 → Wd → Option (Int32 × Wd)} {a0 : Nat} {a1 : Nat} {o2 : Nat} {x3 : Int32} { q2 : Nat} {w : Wd} (hrec22 : ∀ (a0 : Nat) (a1 : Nat) (o2 : Nat) (x3 : Int32) (q2 : Nat) (w : Wd), rec22 a0 a1 o2 x3 w = some (r0, w0) → (zL w 2 a0 = true) → (zL w 2 a1 = true) → (zL w 1 o2 = true) → (zA w 1 o2 6 = q2) → V x 22 [some (.ref a0), some (.ref a1), some (.ref q2), some (.int x3), none, none, none] [] (Rp (xD x) w) 0 0) (hl0 : zL w 2 a0 = true) (hl1 : zL w 2 a1 = true) (hl2 : zL w 1 o2 = true) (hq2 : zA w 1 o2 6 = q2) (h : fX2_distanceTo_b22 rec22 a0 a1 o2 x3 w = some (r0, w0)) : V x 22 [some (.ref a0), some (.ref a1), some (.ref q2), some (.int x3), none, none, none] [] (Rp (xD x) w) 0 0 := by
  unfold fX2_distanceTo_b22 at h
  refine v_iload_n (pc' := 23) hx dX2_distanceTo_22 rfl rfl ?_
  refine v_aload_n (pc' := 24) hx dX2_distanceTo_23 rfl rfl ?_
  refine v_getI (pc' := 27) hx hl0 fi_2_6.1 fi_2_6.2.1 fk_X2_22 dX2_distanceTo_24 rfl ?_
  refine v_icmp_gt (tgt := 122) (pc' := 30) hx dX2_distanceTo_27 (by decide) rfl (fun hc_1 => ?_) (fun hc_1 => ?_)
  · rw [if_pos hc_1] at h
    refine v_aload_n (pc' := 123) hx dX2_distanceTo_122 rfl rfl ?_
    refine v_aload_n (pc' := 124) hx dX2_distanceTo_123 rfl rfl ?_
    refine v_getI (pc' := 127) hx hl1 fi_2_6.1 fi_2_6.2.1 fk_X2_22 dX2_distanceTo_124 rfl ?_
    replace h := ckp_inv h; obtain ⟨hk_2, h⟩ := h
    refine v_ialdq (pc' := 128) hx hl2 fi_1_6.1 fi_1_6.2.1 rfl hk_2 hq2 dX2_distanceTo_127 rfl ?_
    exact v_iret hx hq (by decide) (by decide) dX2_distanceTo_128 (by cases h; rfl)
  · rw [if_neg hc_1] at h
    refine v_aload_n (pc' := 31) hx dX2_distanceTo_30 rfl rfl ?_
    refine v_iconst (pc' := 32) (v := 0) hx dX2_distanceTo_31 (by decide) rfl ?_
    replace h := ckp_inv h; obtain ⟨hk_3, h⟩ := h
    refine v_ialdq (pc' := 33) hx hl2 fi_1_6.1 fi_1_6.2.1 rfl hk_3 hq2 dX2_distanceTo_32 rfl ?_
    refine v_istore (pc' := 35) (L' := [some (.ref a0), some (.ref a1), some (.ref q2), some (.int x3), some (.int (zI w 1 o2 6 (0 : Int32).toNatClampNeg)), none, none]) hx dX2_distanceTo_33 rfl rfl (Nat.le_of_ble_eq_true rfl) ?_
    refine v_aload_n (pc' := 36) hx dX2_distanceTo_35 rfl rfl ?_
    refine v_iconst (pc' := 37) (v := 0) hx dX2_distanceTo_36 (by decide) rfl ?_
    refine v_iload_n (pc' := 38) hx dX2_distanceTo_37 rfl rfl ?_
    replace h := ckp_inv h; obtain ⟨hk_4, h⟩ := h
    refine v_iastq (pc' := 39) hx hl2 fi_1_6.1 fi_1_6.2.1 rfl hk_4 hq2 dX2_distanceTo_38 rfl ?_
    replace h := lt_inv h; obtain ⟨w_5, ew_6, h⟩ := h
    rw [← ew_6]
    have hl_7 : zL w_5 2 a0 = true := by rw [ew_6]; exact hl0
    have hl_8 : zL w_5 2 a1 = true := by rw [ew_6]; exact hl1
    have hl_9 : zL w_5 1 o2 = true := by rw [ew_6]; exact hl2
    have hq_10 : zA w_5 1 o2 6 = q2 := by rw [ew_6]; exact hq2
    refine v_iconst (pc' := 40) (v := 1) hx dX2_distanceTo_39 (by decide) rfl ?_
    refine v_istore (pc' := 42) (L' := [some (.ref a0), some (.ref a1), some (.ref q2), some (.int x3), some (.int (zI w 1 o2 6 (0 : Int32).toNatClampNeg)), some (.int 1), none]) hx dX2_distanceTo_40 rfl rfl (Nat.le_of_ble_eq_true rfl) ?_
    exact vX2_distanceTo_l42 hx hq hrec22 1000 a0 a1 o2 x3 (zI w 1 o2 6 (0 : Int32).toNatClampNeg) 1 q2 w_5 hl_7 hl_8 hl_9 hq_10 h
theorem vX2_distanceTo_l22 {x : CT} (hx : CX x cX2_distanceTo RX2 rmX2_distanceTo (some .int)) {r0 : Int32} {w0 : Wd} (hq : RI x rmX2_distanceTo r0 w0) : ∀ (n : Nat) (a0 : Nat) (a1 : Nat) (o2 : Nat) (x3 : Int32) (q2 : Nat) (w : Wd), (zL w 2 a0 = true) → (zL w 2 a1 = true) → (zL w 1 o2 = true) → (zA w 1 o2 6 = q2) → fX2_distanceTo_l22  n a0 a1 o2 x3 w = some (r0, w0) → V x 22 [some (.ref a0), some (.ref a1), some (.ref q2), some (.int x3), none, none, none] [] (Rp (xD x) w) 0 0 := by
  intro n
  induction n with
  | zero => intro a0 a1 o2 x3 q2 w hl0 hl1 hl2 hq2 h; cases h
  | succ n ih =>
    intro a0 a1 o2 x3 q2 w hl0 hl1 hl2 hq2 h
    exact vX2_distanceTo_b22 hx hq  (fun a0 a1 o2 x3 q2 w h hl0 hl1 hl2 hq2 => ih a0 a1 o2 x3 q2 w hl0 hl1 hl2 hq2 h) hl0 hl1 hl2 hq2 h
theorem vX2_distanceTo_b2 {x : CT} (hx : CX x cX2_distanceTo RX2 rmX2_distanceTo (some .int)) {r0 : Int32} {w0 : Wd} (hq : RI x rmX2_distanceTo r0 w0) {rec2 : Nat → Nat → Nat → Int32 → Wd → Option (Int32 × Wd)} {a0 : Nat} {a1 : Nat} {o2 : Nat} {x3 : Int32} { q2 : Nat} {w : Wd} (hrec2 : ∀ (a0 : Nat) (a1 : Nat) (o2 : Nat) (x3 : Int32) (q2 : Nat) (w : Wd), rec2 a0 a1 o2 x3 w = some (r0, w0) → (zL w 2 a0 = true) → (zL w 2 a1 = true) → (zL w 1 o2 = true) → (zA w 1 o2 6 = q2) → V x 2 [some (.ref a0), some (.ref a1), some (.ref q2), some (.int x3), none, none, none] [] (Rp (xD x) w) 0 0) (hl0 : zL w 2 a0 = true) (hl1 : zL w 2 a1 = true) (hl2 : zL w 1 o2 = true) (hq2 : zA w 1 o2 6 = q2) (h : fX2_distanceTo_b2 rec2 a0 a1 o2 x3 w = some (r0, w0)) : V x 2 [some (.ref a0), some (.ref a1), some (.ref q2), some (.int x3), none, none, none] [] (Rp (xD x) w) 0 0 := by
  unfold fX2_distanceTo_b2 at h
  refine v_iload_n (pc' := 3) hx dX2_distanceTo_2 rfl rfl ?_
  refine v_aload_n (pc' := 4) hx dX2_distanceTo_3 rfl rfl ?_
  refine v_getI (pc' := 7) hx hl1 fi_2_6.1 fi_2_6.2.1 fk_X2_22 dX2_distanceTo_4 rfl ?_
  refine v_icmp_gt (tgt := 20) (pc' := 10) hx dX2_distanceTo_7 (by decide) rfl (fun hc_1 => ?_) (fun hc_1 => ?_)
  · rw [if_pos hc_1] at h
    refine v_iconst (pc' := 21) (v := 1) hx dX2_distanceTo_20 (by decide) rfl ?_
    refine v_istore_n (pc' := 22) (L' := [some (.ref a0), some (.ref a1), some (.ref q2), some (.int 1), none, none, none]) hx dX2_distanceTo_21 rfl rfl (Nat.le_of_ble_eq_true rfl) ?_
    exact vX2_distanceTo_l22 hx hq 1000 a0 a1 o2 1 q2 w hl0 hl1 hl2 hq2 h
  · rw [if_neg hc_1] at h
    refine v_aload_n (pc' := 11) hx dX2_distanceTo_10 rfl rfl ?_
    refine v_iload_n (pc' := 12) hx dX2_distanceTo_11 rfl rfl ?_
    refine v_iload_n (pc' := 13) hx dX2_distanceTo_12 rfl rfl ?_
    replace h := ckp_inv h; obtain ⟨hk_2, h⟩ := h
    refine v_iastq (pc' := 14) hx hl2 fi_1_6.1 fi_1_6.2.1 rfl hk_2 hq2 dX2_distanceTo_13 rfl ?_
    replace h := lt_inv h; obtain ⟨w_3, ew_4, h⟩ := h
    rw [← ew_4]
    have hl_5 : zL w_3 2 a0 = true := by rw [ew_4]; exact hl0
    have hl_6 : zL w_3 2 a1 = true := by rw [ew_4]; exact hl1
    have hl_7 : zL w_3 1 o2 = true := by rw [ew_4]; exact hl2
    have hq_8 : zA w_3 1 o2 6 = q2 := by rw [ew_4]; exact hq2
    refine v_iinc (pc' := 17) (w0 := (x3 + 1)) (L' := [some (.ref a0), some (.ref a1), some (.ref q2), some (.int (x3 + 1)), none, none, none]) hx dX2_distanceTo_14 rfl rfl rfl rfl ?_
    refine v_goto (tgt := 2) hx dX2_distanceTo_17 (by decide) ?_
    exact hrec2 a0 a1 o2 (x3 + 1) q2 w_3 h hl_5 hl_6 hl_7 hq_8
theorem vX2_distanceTo_l2 {x : CT} (hx : CX x cX2_distanceTo RX2 rmX2_distanceTo (some .int)) {r0 : Int32} {w0 : Wd} (hq : RI x rmX2_distanceTo r0 w0) : ∀ (n : Nat) (a0 : Nat) (a1 : Nat) (o2 : Nat) (x3 : Int32) (q2 : Nat) (w : Wd), (zL w 2 a0 = true) → (zL w 2 a1 = true) → (zL w 1 o2 = true) → (zA w 1 o2 6 = q2) → fX2_distanceTo_l2  n a0 a1 o2 x3 w = some (r0, w0) → V x 2 [some (.ref a0), some (.ref a1), some (.ref q2), some (.int x3), none, none, none] [] (Rp (xD x) w) 0 0 := by
  intro n
  induction n with
  | zero => intro a0 a1 o2 x3 q2 w hl0 hl1 hl2 hq2 h; cases h
  | succ n ih =>
    intro a0 a1 o2 x3 q2 w hl0 hl1 hl2 hq2 h
    exact vX2_distanceTo_b2 hx hq  (fun a0 a1 o2 x3 q2 w h hl0 hl1 hl2 hq2 => ih a0 a1 o2 x3 q2 w hl0 hl1 hl2 hq2 h) hl0 hl1 hl2 hq2 h
theorem vX2_distanceTo {x : CT} (hx : CX x cX2_distanceTo RX2 rmX2_distanceTo (some .int)) {r0 : Int32} {w0 : Wd} {w : Wd} (hq : RI x rmX2_distanceTo r0 w0) (a0 : Nat) (a1 : Nat) (o2 : Nat) (q2 : Nat) (hl0 : zL w 2 a0 = true) (hl1 : zL w 2 a1 = true) (hl2 : zL w 1 o2 = true) (hq2 : zA w 1 o2 6 = q2) (h : fX2_distanceTo a0 a1 o2 w = some (r0, w0)) : V x 0 [some (.ref a0), some (.ref a1), some (.ref q2), none, none, none, none] [] (Rp (xD x) w) 0 0 := by
  unfold fX2_distanceTo at h
  refine v_iconst (pc' := 1) (v := 0) hx dX2_distanceTo_0 (by decide) rfl ?_
  refine v_istore_n (pc' := 2) (L' := [some (.ref a0), some (.ref a1), some (.ref q2), some (.int 0), none, none, none]) hx dX2_distanceTo_1 rfl rfl (Nat.le_of_ble_eq_true rfl) ?_
  exact vX2_distanceTo_l2 hx hq 1000 a0 a1 o2 0 q2 w hl0 hl1 hl2 hq2 h
theorem ctX2_distanceTo (l : Launch) (D : DD) (w : Wd) (G : GT) (sz : Nat) (hR : Rp D w G sz) (a0 : Nat) (a1 : Nat) (o2 : Nat) (q2 : Nat) (hl0 : zL w 2 a0 = true) (hl1 : zL w 2 a1 = true) (hl2 : zL w 1 o2 = true) (hq2 : zA w 1 o2 6 = q2) {r0 : Int32} {w0 : Wd} (h : fX2_distanceTo a0 a1 o2 w = some (r0, w0)) : MetI l yX2_distanceTo (WS yX2_distanceTo cX2_distanceTo 7 (some .int)) rmX2_distanceTo D [.ref a0, .ref a1, .ref q2] G sz r0 w0 := by
  refine MetI_ofV (own := RX2) (P := Rp D w) hR (by decide) rfl (by simp [Value.category]) (Nat.le_of_ble_eq_true rfl) (fun x hx hq hD hl => ?_)
  subst hD
  exact vX2_distanceTo hx hq a0 a1 o2 q2 hl0 hl1 hl2 hq2 h
theorem kX1_measureFrom_b81 {w0 : Wd} {rec11 : Nat → Nat → Nat → Int32 → Int32 → Wd → Option (Wd)} {a0 : Nat} {a1 : Nat} {o2 : Nat} {x3 : Int32} {x4 : Int32} {w wb : Wd} (hkr11 : ∀ (a0 : Nat) (a1 : Nat) (o2 : Nat) (x3 : Int32) (x4 : Int32) (w : Wd), rec11 a0 a1 o2 x3 x4 w = some w0 → mo wb w → mo wb w0) (hm : mo wb w) (h : fX1_measureFrom_b81 rec11 a0 a1 o2 x3 x4 w = some w0) : mo wb w0 := by
  unfold fX1_measureFrom_b81 at h
  exact hkr11 a0 a1 o2 x3 (x4 + 1) w h hm
theorem kX1_measureFrom_b11 {w0 : Wd} {rec11 : Nat → Nat → Nat → Int32 → Int32 → Wd → Option (Wd)} {a0 : Nat} {a1 : Nat} {o2 : Nat} {x3 : Int32} {x4 : Int32} {w wb : Wd} (hkr11 : ∀ (a0 : Nat) (a1 : Nat) (o2 : Nat) (x3 : Int32) (x4 : Int32) (w : Wd), rec11 a0 a1 o2 x3 x4 w = some w0 → mo wb w → mo wb w0) (hm : mo wb w) (h : fX1_measureFrom_b11 rec11 a0 a1 o2 x3 x4 w = some w0) : mo wb w0 := by
  unfold fX1_measureFrom_b11 at h
  by_cases hc_1 : x3 ≤ x4
  · rw [if_pos hc_1] at h
    cases h; exact hm
  · rw [if_neg hc_1] at h
    replace h := ckp_inv h; obtain ⟨hk_2, h⟩ := h
    replace h := lt_inv h; obtain ⟨u_3, er_4, h⟩ := h
    rcases u_3 with _ | b_7
    · rw [oc_n] at h
      exact kX1_measureFrom_b81 hkr11 hm h
    · rw [oc_s] at h
      replace h := bd2_inv h; obtain ⟨y_13, w_14, hcl_12, h⟩ := h
      have hm := hm.tr (kX2_distanceTo hcl_12)
      replace h := ckp_inv h; obtain ⟨hk_25, h⟩ := h
      replace h := lt_inv h; obtain ⟨w_26, ew_27, h⟩ := h
      have hm := mo_eI hm ew_27
      replace h := ckp_inv h; obtain ⟨hk_36, h⟩ := h
      replace h := lt_inv h; obtain ⟨w_37, ew_38, h⟩ := h
      have hm := mo_eI hm ew_38
      exact kX1_measureFrom_b81 hkr11 hm h
theorem kX1_measureFrom_l11 {w0 : Wd} {wb : Wd} : ∀ (n : Nat) (a0 : Nat) (a1 : Nat) (o2 : Nat) (x3 : Int32) (x4 : Int32) (w : Wd), mo wb w → fX1_measureFrom_l11  n a0 a1 o2 x3 x4 w = some w0 → mo wb w0 := by
  intro n
  induction n with
  | zero => intro a0 a1 o2 x3 x4 w hm h; cases h
  | succ n ih =>
    intro a0 a1 o2 x3 x4 w hm h
    exact kX1_measureFrom_b11  (fun a0 a1 o2 x3 x4 w h hm => ih a0 a1 o2 x3 x4 w hm h) hm h
theorem kX1_measureFrom {w0 : Wd} {a0 : Nat} {a1 : Nat} {w : Wd} (h : fX1_measureFrom a0 a1 w = some w0) : mo w w0 := by
  have hm := mo_rf w
  unfold fX1_measureFrom at h
  exact kX1_measureFrom_l11 1000 a0 a1 a0 24 0 w hm h
theorem vX1_measureFrom_b81 {x : CT} (hx : CX x cX1_measureFrom RX1 rmX1_measureFrom none) {w0 : Wd} (hq : RV x rmX1_measureFrom w0) {rec11 : Nat → Nat → Nat → Int32 → Int32 → Wd → Option (Wd)} {a0 : Nat} {a1 : Nat} {o2 : Nat} {x3 : Int32} {x4 : Int32} { q2 : Nat} {w : Wd} (hrec11 : ∀ (a0 : Nat) (a1 : Nat) (o2 : Nat) (x3 : Int32) (x4 : Int32) (q2 : Nat) (w : Wd), rec11 a0 a1 o2 x3 x4 w = some w0 → (zL w 1 a0 = true) → (zL w 2 a1 = true) → (zL w 1 o2 = true) → (zA w 1 o2 1 = q2) → V x 11 [some (.ref a0), some (.ref a1), some (.ref q2), some (.int x3), some (.int x4), none, none] [] (Rp (xD x) w) 0 0) (hl0 : zL w 1 a0 = true) (hl1 : zL w 2 a1 = true) (hl2 : zL w 1 o2 = true) (hq2 : zA w 1 o2 1 = q2) (h : fX1_measureFrom_b81 rec11 a0 a1 o2 x3 x4 w = some w0) : V x 81 [some (.ref a0), some (.ref a1), some (.ref q2), some (.int x3), some (.int x4), none, none] [] (Rp (xD x) w) 0 0 := by
  unfold fX1_measureFrom_b81 at h
  refine v_iinc (pc' := 84) (w0 := (x4 + 1)) (L' := [some (.ref a0), some (.ref a1), some (.ref q2), some (.int x3), some (.int (x4 + 1)), none, none]) hx dX1_measureFrom_81 rfl rfl rfl rfl ?_
  refine v_goto (tgt := 11) hx dX1_measureFrom_84 (by decide) ?_
  exact hrec11 a0 a1 o2 x3 (x4 + 1) q2 w h hl0 hl1 hl2 hq2
theorem vX1_measureFrom_b11 {x : CT} (hx : CX x cX1_measureFrom RX1 rmX1_measureFrom none) {w0 : Wd} (hq : RV x rmX1_measureFrom w0) {rec11 : Nat → Nat → Nat → Int32 → Int32 → Wd → Option (Wd)} {a0 : Nat} {a1 : Nat} {o2 : Nat} {x3 : Int32} {x4 : Int32} { q2 : Nat} {w : Wd} (hrec11 : ∀ (a0 : Nat) (a1 : Nat) (o2 : Nat) (x3 : Int32) (x4 : Int32) (q2 : Nat) (w : Wd), rec11 a0 a1 o2 x3 x4 w = some w0 → (zL w 1 a0 = true) → (zL w 2 a1 = true) → (zL w 1 o2 = true) → (zA w 1 o2 1 = q2) → V x 11 [some (.ref a0), some (.ref a1), some (.ref q2), some (.int x3), some (.int x4), none, none] [] (Rp (xD x) w) 0 0) (hl0 : zL w 1 a0 = true) (hl1 : zL w 2 a1 = true) (hl2 : zL w 1 o2 = true) (hq2 : zA w 1 o2 1 = q2) (h : fX1_measureFrom_b11 rec11 a0 a1 o2 x3 x4 w = some w0) : V x 11 [some (.ref a0), some (.ref a1), some (.ref q2), some (.int x3), some (.int x4), none, none] [] (Rp (xD x) w) 0 0 := by
  unfold fX1_measureFrom_b11 at h
  refine v_iload (pc' := 13) hx dX1_measureFrom_11 rfl rfl ?_
  refine v_iload_n (pc' := 14) hx dX1_measureFrom_13 rfl rfl ?_
  refine v_icmp_ge (tgt := 87) (pc' := 17) hx dX1_measureFrom_14 (by decide) rfl (fun hc_1 => ?_) (fun hc_1 => ?_)
  · rw [if_pos hc_1] at h
    exact v_vret hx hq (by decide) (by decide) dX1_measureFrom_87 (by cases h; rfl)
  · rw [if_neg hc_1] at h
    refine v_aload_n (pc' := 18) hx dX1_measureFrom_17 rfl rfl ?_
    refine v_iload (pc' := 20) hx dX1_measureFrom_18 rfl rfl ?_
    replace h := ckp_inv h; obtain ⟨hk_2, h⟩ := h
    refine v_aaldq (pc' := 21) hx hl2 fi_1_1.1 fi_1_1.2.2 rfl hk_2 hq2 dX1_measureFrom_20 rfl ?_
    replace h := lt_inv h; obtain ⟨u_3, er_4, h⟩ := h
    rw [← er_4]
    refine v_liv hl2 (fun ht_5 => ?_)
    have hl_6 : ∀ b, u_3 = some b → zL w 2 b = true := fun b hb => ht_5 1 _ b (er_4.symm.trans hb)
    refine v_astoreq (pc' := 23) (L' := [some (.ref a0), some (.ref a1), some (.ref q2), some (.int x3), some (.int x4), some (va_rf u_3), none]) hx dX1_measureFrom_21 rfl rfl (Nat.le_of_ble_eq_true rfl) ?_
    refine v_aloadq (pc' := 25) hx dX1_measureFrom_23 rfl rfl ?_
    refine v_ifnull (tgt := 81) (pc' := 28) hx dX1_measureFrom_25 (by decide) rfl (fun hn_8 => ?_) (fun b_7 hn_8 => ?_)
    · subst hn_8
      rw [oc_n] at h
      refine V.sb (L' := [some (.ref a0), some (.ref a1), some (.ref q2), some (.int x3), some (.int x4), none, none]) ⟨Or.inr rfl, Or.inr rfl, Or.inr rfl, Or.inr rfl, Or.inr rfl, Or.inl rfl, Or.inl rfl, trivial⟩ ?_
      exact vX1_measureFrom_b81 hx hq hrec11 hl0 hl1 hl2 hq2 h
    · subst hn_8
      rw [oc_s] at h
      have hl_9 : zL w 2 b_7 = true := hl_6 _ rfl
      refine v_aload_n (pc' := 29) hx dX1_measureFrom_28 rfl rfl ?_
      refine v_aload (pc' := 31) hx dX1_measureFrom_29 rfl rfl ?_
      refine v_aload_n (pc' := 32) hx dX1_measureFrom_31 rfl rfl ?_
      obtain ⟨g_10, hq_11⟩ : ∃ q, zA w 1 a0 6 = q := ⟨_, rfl⟩
      refine v_getAq (pc' := 35) hx hl0 fi_1_6.1 (by decide) hq_11 fk_X1_35 dX1_measureFrom_32 rfl ?_
      replace h := bd2_inv h; obtain ⟨y_13, w_14, hcl_12, h⟩ := h
      refine v_wf (fun hwf_15 => ?_)
      refine v_callVi (pc' := 38) (w' := w_14) (r := y_13) (ci := 2) (b := a1) (As := [.ref b_7, .ref g_10]) (rest := []) hx hl1 (fun G sz hR => ctX2_distanceTo (xl x) (xD x) w G sz hR a1 b_7 a0 g_10 hl1 hl_9 hl0 hq_11 hcl_12) rfl my_X2_distanceTo ml_X1_68 ⟨by decide, by decide⟩ ⟨by decide, by decide⟩ rfl rfl (Nat.le_of_ble_eq_true rfl) dX1_measureFrom_35 rfl ?_
      have hm_17 := kX2_distanceTo hcl_12 hwf_15
      have hl_18 : zL w_14 1 a0 = true := (hm_17.2 _ _ hl0).1
      have hl_19 : zL w_14 2 a1 = true := (hm_17.2 _ _ hl1).1
      have hl_20 : zL w_14 1 o2 = true := (hm_17.2 _ _ hl2).1
      have hq_21 : zA w_14 1 o2 1 = q2 := ((hm_17.2 _ _ hl2).2 1).trans hq2
      have hl_22 : zL w_14 2 b_7 = true := (hm_17.2 _ _ hl_9).1
      refine v_i2b (pc' := 39) hx dX1_measureFrom_38 rfl ?_
      refine v_istore (pc' := 41) (L' := [some (.ref a0), some (.ref a1), some (.ref q2), some (.int x3), some (.int x4), some (.ref b_7), some (.int ((y_13 : Int32).toInt8.toInt32))]) hx dX1_measureFrom_39 rfl rfl (Nat.le_of_ble_eq_true rfl) ?_
      refine v_aload_n (pc' := 42) hx dX1_measureFrom_41 rfl rfl ?_
      obtain ⟨g_23, hq_24⟩ : ∃ q, zA w_14 1 a0 5 = q := ⟨_, rfl⟩
      refine v_getAq (pc' := 45) hx hl_18 fi_1_5.1 (by decide) hq_24 fk_X1_31 dX1_measureFrom_42 rfl ?_
      refine v_aload_n (pc' := 46) hx dX1_measureFrom_45 rfl rfl ?_
      refine v_getI (pc' := 49) hx hl_19 fi_2_1.1 fi_2_1.2.1 fk_X1_41 dX1_measureFrom_46 rfl ?_
      refine v_bipush (pc' := 51) (v := 24) hx dX1_measureFrom_49 (by decide) rfl ?_
      refine v_imul (pc' := 52) hx dX1_measureFrom_51 rfl ?_
      refine v_aload (pc' := 54) hx dX1_measureFrom_52 rfl rfl ?_
      refine v_getI (pc' := 57) hx hl_22 fi_2_1.1 fi_2_1.2.1 fk_X1_41 dX1_measureFrom_54 rfl ?_
      refine v_iadd (pc' := 58) hx dX1_measureFrom_57 rfl ?_
      refine v_iload (pc' := 60) hx dX1_measureFrom_58 rfl rfl ?_
      replace h := ckp_inv h; obtain ⟨hk_25, h⟩ := h
      refine v_bastq (pc' := 61) hx hl_18 fi_1_5.1 fi_1_5.2.1 rfl hk_25 hq_24 dX1_measureFrom_60 rfl ?_
      replace h := lt_inv h; obtain ⟨w_26, ew_27, h⟩ := h
      rw [← ew_27]
      have hl_28 : zL w_26 1 a0 = true := by rw [ew_27]; exact hl_18
      have hl_29 : zL w_26 2 a1 = true := by rw [ew_27]; exact hl_19
      have hl_30 : zL w_26 1 o2 = true := by rw [ew_27]; exact hl_20
      have hq_31 : zA w_26 1 o2 1 = q2 := by rw [ew_27]; exact hq_21
      have hl_32 : zL w_26 2 b_7 = true := by rw [ew_27]; exact hl_22
      have hwf_33 : WF w_26 := by rw [ew_27]; exact hm_17.1
      refine v_aload_n (pc' := 62) hx dX1_measureFrom_61 rfl rfl ?_
      obtain ⟨g_34, hq_35⟩ : ∃ q, zA w_26 1 a0 5 = q := ⟨_, rfl⟩
      refine v_getAq (pc' := 65) hx hl_28 fi_1_5.1 (by decide) hq_35 fk_X1_31 dX1_measureFrom_62 rfl ?_
      refine v_aload (pc' := 67) hx dX1_measureFrom_65 rfl rfl ?_
      refine v_getI (pc' := 70) hx hl_32 fi_2_1.1 fi_2_1.2.1 fk_X1_41 dX1_measureFrom_67 rfl ?_
      refine v_bipush (pc' := 72) (v := 24) hx dX1_measureFrom_70 (by decide) rfl ?_
      refine v_imul (pc' := 73) hx dX1_measureFrom_72 rfl ?_
      refine v_aload_n (pc' := 74) hx dX1_measureFrom_73 rfl rfl ?_
      refine v_getI (pc' := 77) hx hl_29 fi_2_1.1 fi_2_1.2.1 fk_X1_41 dX1_measureFrom_74 rfl ?_
      refine v_iadd (pc' := 78) hx dX1_measureFrom_77 rfl ?_
      refine v_iload (pc' := 80) hx dX1_measureFrom_78 rfl rfl ?_
      replace h := ckp_inv h; obtain ⟨hk_36, h⟩ := h
      refine v_bastq (pc' := 81) hx hl_28 fi_1_5.1 fi_1_5.2.1 rfl hk_36 hq_35 dX1_measureFrom_80 rfl ?_
      replace h := lt_inv h; obtain ⟨w_37, ew_38, h⟩ := h
      rw [← ew_38]
      have hl_39 : zL w_37 1 a0 = true := by rw [ew_38]; exact hl_28
      have hl_40 : zL w_37 2 a1 = true := by rw [ew_38]; exact hl_29
      have hl_41 : zL w_37 1 o2 = true := by rw [ew_38]; exact hl_30
      have hq_42 : zA w_37 1 o2 1 = q2 := by rw [ew_38]; exact hq_31
      have hl_43 : zL w_37 2 b_7 = true := by rw [ew_38]; exact hl_32
      have hwf_44 : WF w_37 := by rw [ew_38]; exact hwf_33
      refine V.sb (L' := [some (.ref a0), some (.ref a1), some (.ref q2), some (.int x3), some (.int x4), none, none]) ⟨Or.inr rfl, Or.inr rfl, Or.inr rfl, Or.inr rfl, Or.inr rfl, Or.inl rfl, Or.inl rfl, trivial⟩ ?_
      exact vX1_measureFrom_b81 hx hq hrec11 hl_39 hl_40 hl_41 hq_42 h
theorem vX1_measureFrom_l11 {x : CT} (hx : CX x cX1_measureFrom RX1 rmX1_measureFrom none) {w0 : Wd} (hq : RV x rmX1_measureFrom w0) : ∀ (n : Nat) (a0 : Nat) (a1 : Nat) (o2 : Nat) (x3 : Int32) (x4 : Int32) (q2 : Nat) (w : Wd), (zL w 1 a0 = true) → (zL w 2 a1 = true) → (zL w 1 o2 = true) → (zA w 1 o2 1 = q2) → fX1_measureFrom_l11  n a0 a1 o2 x3 x4 w = some w0 → V x 11 [some (.ref a0), some (.ref a1), some (.ref q2), some (.int x3), some (.int x4), none, none] [] (Rp (xD x) w) 0 0 := by
  intro n
  induction n with
  | zero => intro a0 a1 o2 x3 x4 q2 w hl0 hl1 hl2 hq2 h; cases h
  | succ n ih =>
    intro a0 a1 o2 x3 x4 q2 w hl0 hl1 hl2 hq2 h
    exact vX1_measureFrom_b11 hx hq  (fun a0 a1 o2 x3 x4 q2 w h hl0 hl1 hl2 hq2 => ih a0 a1 o2 x3 x4 q2 w hl0 hl1 hl2 hq2 h) hl0 hl1 hl2 hq2 h
theorem vX1_measureFrom {x : CT} (hx : CX x cX1_measureFrom RX1 rmX1_measureFrom none) {w0 : Wd} {w : Wd} (hq : RV x rmX1_measureFrom w0) (a0 : Nat) (a1 : Nat) (hl0 : zL w 1 a0 = true) (hl1 : zL w 2 a1 = true) (h : fX1_measureFrom a0 a1 w = some w0) : V x 0 [some (.ref a0), some (.ref a1), none, none, none, none, none] [] (Rp (xD x) w) 0 0 := by
  unfold fX1_measureFrom at h
  refine v_aload_n (pc' := 1) hx dX1_measureFrom_0 rfl rfl ?_
  obtain ⟨g_1, hq_2⟩ : ∃ q, zA w 1 a0 1 = q := ⟨_, rfl⟩
  refine v_getAq (pc' := 4) hx hl0 fi_1_1.1 (by decide) hq_2 fk_X1_17 dX1_measureFrom_1 rfl ?_
  refine v_astore_n (pc' := 5) (L' := [some (.ref a0), some (.ref a1), some (.ref g_1), none, none, none, none]) hx dX1_measureFrom_4 rfl rfl (Nat.le_of_ble_eq_true rfl) ?_
  refine v_aload_n (pc' := 6) hx dX1_measureFrom_5 rfl rfl ?_
  refine v_alenq (pc' := 7) (v := 24) hx hl0 fi_1_1.1 (by decide) (by decide) hq_2 dX1_measureFrom_6 rfl ?_
  refine v_istore_n (pc' := 8) (L' := [some (.ref a0), some (.ref a1), some (.ref g_1), some (.int 24), none, none, none]) hx dX1_measureFrom_7 rfl rfl (Nat.le_of_ble_eq_true rfl) ?_
  refine v_iconst (pc' := 9) (v := 0) hx dX1_measureFrom_8 (by decide) rfl ?_
  refine v_istore (pc' := 11) (L' := [some (.ref a0), some (.ref a1), some (.ref g_1), some (.int 24), some (.int 0), none, none]) hx dX1_measureFrom_9 rfl rfl (Nat.le_of_ble_eq_true rfl) ?_
  exact vX1_measureFrom_l11 hx hq 1000 a0 a1 a0 24 0 g_1 w hl0 hl1 hl0 hq_2 h
theorem ctX1_measureFrom (l : Launch) (D : DD) (w : Wd) (G : GT) (sz : Nat) (hR : Rp D w G sz) (a0 : Nat) (a1 : Nat) (hl0 : zL w 1 a0 = true) (hl1 : zL w 2 a1 = true) {w0 : Wd} (h : fX1_measureFrom a0 a1 w = some w0) : MetV l yX1_measureFrom (WS yX1_measureFrom cX1_measureFrom 7 none) rmX1_measureFrom D [.ref a0, .ref a1] G sz w0 := by
  refine MetV_ofV (own := RX1) (P := Rp D w) hR (by decide) rfl (by simp [Value.category]) (Nat.le_of_ble_eq_true rfl) (fun x hx hq hD hl => ?_)
  subst hD
  exact vX1_measureFrom hx hq a0 a1 hl0 hl1 h
theorem vX2_isWaiting_b13 {x : CT} (hx : CX x cX2_isWaiting RX2 rmX2_isWaiting (some .boolean)) {r0 : Int32} {w : Wd} (hq : RI x rmX2_isWaiting r0 w) {xs0 : Int32} (h : fX2_isWaiting_b13 w xs0 = some r0) : V x 13 [none] [.int xs0] (Rp (xD x) w) 0 0 := by
  unfold fX2_isWaiting_b13 at h
  replace h := ckp_inv h; obtain ⟨hk_1, h⟩ := h
  exact v_zret hx hq (by decide) (by decide) dX2_isWaiting_13 hk_1 (by cases h; rfl)
theorem vX2_isWaiting {x : CT} (hx : CX x cX2_isWaiting RX2 rmX2_isWaiting (some .boolean)) {r0 : Int32} {w : Wd} (hq : RI x rmX2_isWaiting r0 w) (a0 : Nat) (hl0 : zL w 2 a0 = true) (h : fX2_isWaiting a0 w = some r0) : V x 0 [some (.ref a0)] [] (Rp (xD x) w) 0 0 := by
  unfold fX2_isWaiting at h
  refine v_aload_n (pc' := 1) hx dX2_isWaiting_0 rfl rfl ?_
  refine v_getI (pc' := 4) hx hl0 fi_2_5.1 fi_2_5.2.1 fk_X2_19 dX2_isWaiting_1 rfl ?_
  refine v_iconst (pc' := 5) (v := (-1)) hx dX2_isWaiting_4 (by decide) rfl ?_
  refine v_icmp_eq (tgt := 12) (pc' := 8) hx dX2_isWaiting_5 (by decide) rfl (fun hc_1 => ?_) (fun hc_1 => ?_)
  · rw [if_pos hc_1] at h
    refine v_iconst (pc' := 13) (v := 0) hx dX2_isWaiting_12 (by decide) rfl ?_
    refine V.sb (L' := [none]) ⟨Or.inl rfl, trivial⟩ ?_
    exact vX2_isWaiting_b13 hx hq h
  · rw [if_neg hc_1] at h
    refine v_iconst (pc' := 9) (v := 1) hx dX2_isWaiting_8 (by decide) rfl ?_
    refine v_goto (tgt := 13) hx dX2_isWaiting_9 (by decide) ?_
    refine V.sb (L' := [none]) ⟨Or.inl rfl, trivial⟩ ?_
    exact vX2_isWaiting_b13 hx hq h
theorem ctX2_isWaiting (l : Launch) (D : DD) (w : Wd) (G : GT) (sz : Nat) (hR : Rp D w G sz) (a0 : Nat) (hl0 : zL w 2 a0 = true) {r0 : Int32} (h : fX2_isWaiting a0 w = some r0) : MetI l yX2_isWaiting (WS yX2_isWaiting cX2_isWaiting 1 (some .boolean)) rmX2_isWaiting D [.ref a0] G sz r0 w := by
  refine MetI_ofV (own := RX2) (P := Rp D w) hR (by decide) rfl (by simp [Value.category]) (Nat.le_of_ble_eq_true rfl) (fun x hx hq hD hl => ?_)
  subst hD
  exact vX2_isWaiting hx hq a0 hl0 h
theorem kX1_keep_b89 {w0 : Wd} {rec55 : Nat → Nat → Int32 → Wd → Option (Wd)} {a0 : Nat} {a1 : Nat} {x2 : Int32} {w wb : Wd} (hkr55 : ∀ (a0 : Nat) (a1 : Nat) (x2 : Int32) (w : Wd), rec55 a0 a1 x2 w = some w0 → mo wb w → mo wb w0) (hm : mo wb w) (h : fX1_keep_b89 rec55 a0 a1 x2 w = some w0) : mo wb w0 := by
  unfold fX1_keep_b89 at h
  exact hkr55 a0 a1 (x2 + 1) w h hm
theorem kX1_keep_b55 {w0 : Wd} {rec55 : Nat → Nat → Int32 → Wd → Option (Wd)} {a0 : Nat} {a1 : Nat} {x2 : Int32} {w wb : Wd} (hkr55 : ∀ (a0 : Nat) (a1 : Nat) (x2 : Int32) (w : Wd), rec55 a0 a1 x2 w = some w0 → mo wb w → mo wb w0) (hm : mo wb w) (h : fX1_keep_b55 rec55 a0 a1 x2 w = some w0) : mo wb w0 := by
  unfold fX1_keep_b55 at h
  by_cases hc_1 : 16 ≤ x2
  · rw [if_pos hc_1] at h
    cases h; exact hm
  · rw [if_neg hc_1] at h
    replace h := bd_inv h; obtain ⟨y_3, hcl_2, h⟩ := h
    by_cases hc_5 : y_3 = 0
    · rw [if_pos hc_5] at h
      exact kX1_keep_b89 hkr55 hm h
    · rw [if_neg hc_5] at h
      replace h := ckp_inv h; obtain ⟨hk_8, h⟩ := h
      replace h := lt_inv h; obtain ⟨w_9, ew_10, h⟩ := h
      have hm := mo_eI hm ew_10
      replace h := lt_inv h; obtain ⟨w_13, ew_14, h⟩ := h
      have hm := mo_eI hm ew_14
      exact kX1_keep_b89 hkr55 hm h
theorem kX1_keep_l55 {w0 : Wd} {wb : Wd} : ∀ (n : Nat) (a0 : Nat) (a1 : Nat) (x2 : Int32) (w : Wd), mo wb w → fX1_keep_l55  n a0 a1 x2 w = some w0 → mo wb w0 := by
  intro n
  induction n with
  | zero => intro a0 a1 x2 w hm h; cases h
  | succ n ih =>
    intro a0 a1 x2 w hm h
    exact kX1_keep_b55  (fun a0 a1 x2 w h hm => ih a0 a1 x2 w hm h) hm h
theorem kX1_keep_b53 {w0 : Wd} {a0 : Nat} {a1 : Nat} {w wb : Wd} (hm : mo wb w) (h : fX1_keep_b53 a0 a1 w = some w0) : mo wb w0 := by
  unfold fX1_keep_b53 at h
  exact kX1_keep_l55 1000 a0 a1 0 w hm h
theorem kX1_keep {w0 : Wd} {a0 : Nat} {a1 : Nat} {w : Wd} (h : fX1_keep a0 a1 w = some w0) : mo w w0 := by
  have hm := mo_rf w
  unfold fX1_keep at h
  replace h := bd_inv h; obtain ⟨y_2, hcl_1, h⟩ := h
  by_cases hc_4 : y_2 = 0
  · rw [if_pos hc_4] at h
    cases h; exact hm
  · rw [if_neg hc_4] at h
    replace h := bd_inv h; obtain ⟨w_6, hcl_5, h⟩ := h
    have hm := hm.tr (kX1_measureFrom hcl_5)
    replace h := ckp_inv h; obtain ⟨hk_14, h⟩ := h
    replace h := lt_inv h; obtain ⟨w_15, ew_16, h⟩ := h
    have hm := mo_eR hm ew_16
    replace h := lt_inv h; obtain ⟨w_20, ew_21, h⟩ := h
    have hm := mo_eI hm ew_21
    replace h := bd_inv h; obtain ⟨y_26, hcl_25, h⟩ := h
    by_cases hc_28 : y_26 = 0
    · rw [if_pos hc_28] at h
      exact kX1_keep_b53 hm h
    · rw [if_neg hc_28] at h
      replace h := lt_inv h; obtain ⟨w_29, ew_30, h⟩ := h
      have hm := mo_eI hm ew_30
      exact kX1_keep_b53 hm h
theorem vX1_keep_b89 {x : CT} (hx : CX x cX1_keep RX1 rmX1_keep none) {w0 : Wd} (hq : RV x rmX1_keep w0) {rec55 : Nat → Nat → Int32 → Wd → Option (Wd)} {a0 : Nat} {a1 : Nat} {x2 : Int32} {w : Wd} (hrec55 : ∀ (a0 : Nat) (a1 : Nat) (x2 : Int32) (w : Wd), rec55 a0 a1 x2 w = some w0 → (zL w 1 a0 = true) → (zL w 2 a1 = true) → V x 55 [some (.ref a0), some (.ref a1), some (.int x2)] [] (Rp (xD x) w) 0 0) (hl0 : zL w 1 a0 = true) (hl1 : zL w 2 a1 = true) (h : fX1_keep_b89 rec55 a0 a1 x2 w = some w0) : V x 89 [some (.ref a0), some (.ref a1), some (.int x2)] [] (Rp (xD x) w) 0 0 := by
  unfold fX1_keep_b89 at h
  refine v_iinc (pc' := 92) (w0 := (x2 + 1)) (L' := [some (.ref a0), some (.ref a1), some (.int (x2 + 1))]) hx dX1_keep_89 rfl rfl rfl rfl ?_
  refine v_goto (tgt := 55) hx dX1_keep_92 (by decide) ?_
  exact hrec55 a0 a1 (x2 + 1) w h hl0 hl1
theorem vX1_keep_b55 {x : CT} (hx : CX x cX1_keep RX1 rmX1_keep none) {w0 : Wd} (hq : RV x rmX1_keep w0) {rec55 : Nat → Nat → Int32 → Wd → Option (Wd)} {a0 : Nat} {a1 : Nat} {x2 : Int32} {w : Wd} (hrec55 : ∀ (a0 : Nat) (a1 : Nat) (x2 : Int32) (w : Wd), rec55 a0 a1 x2 w = some w0 → (zL w 1 a0 = true) → (zL w 2 a1 = true) → V x 55 [some (.ref a0), some (.ref a1), some (.int x2)] [] (Rp (xD x) w) 0 0) (hl0 : zL w 1 a0 = true) (hl1 : zL w 2 a1 = true) (h : fX1_keep_b55 rec55 a0 a1 x2 w = some w0) : V x 55 [some (.ref a0), some (.ref a1), some (.int x2)] [] (Rp (xD x) w) 0 0 := by
  unfold fX1_keep_b55 at h
  refine v_iload_n (pc' := 56) hx dX1_keep_55 rfl rfl ?_
  refine v_bipush (pc' := 58) (v := 16) hx dX1_keep_56 (by decide) rfl ?_
  refine v_icmp_ge (tgt := 95) (pc' := 61) hx dX1_keep_58 (by decide) rfl (fun hc_1 => ?_) (fun hc_1 => ?_)
  · rw [if_pos hc_1] at h
    exact v_vret hx hq (by decide) (by decide) dX1_keep_95 (by cases h; rfl)
  · rw [if_neg hc_1] at h
    refine v_aload_n (pc' := 62) hx dX1_keep_61 rfl rfl ?_
    refine v_iload_n (pc' := 63) hx dX1_keep_62 rfl rfl ?_
    replace h := bd_inv h; obtain ⟨y_3, hcl_2, h⟩ := h
    refine v_callVi (pc' := 66) (w' := w) (r := y_3) (ci := 2) (b := a1) (As := [.int x2]) (rest := []) hx hl1 (fun G sz hR => ctX2_holds (xl x) (xD x) w G sz hR a1 x2 hl1 hcl_2) rfl my_X2_holds ml_X1_62 ⟨by decide, by decide⟩ ⟨by decide, by decide⟩ rfl rfl (Nat.le_of_ble_eq_true rfl) dX1_keep_63 rfl ?_
    refine v_if_eq (tgt := 89) (pc' := 69) hx dX1_keep_66 (by decide) rfl (fun hc_5 => ?_) (fun hc_5 => ?_)
    · rw [if_pos hc_5] at h
      exact vX1_keep_b89 hx hq hrec55 hl0 hl1 h
    · rw [if_neg hc_5] at h
      refine v_aload_n (pc' := 70) hx dX1_keep_69 rfl rfl ?_
      obtain ⟨g_6, hq_7⟩ : ∃ q, zA w 1 a0 2 = q := ⟨_, rfl⟩
      refine v_getAq (pc' := 73) hx hl0 fi_1_2.1 (by decide) hq_7 fk_X1_21 dX1_keep_70 rfl ?_
      refine v_iload_n (pc' := 74) hx dX1_keep_73 rfl rfl ?_
      refine v_aload_n (pc' := 75) hx dX1_keep_74 rfl rfl ?_
      refine v_getI (pc' := 78) hx hl1 fi_2_1.1 fi_2_1.2.1 fk_X1_41 dX1_keep_75 rfl ?_
      replace h := ckp_inv h; obtain ⟨hk_8, h⟩ := h
      refine v_iastq (pc' := 79) hx hl0 fi_1_2.1 fi_1_2.2.1 rfl hk_8 hq_7 dX1_keep_78 rfl ?_
      replace h := lt_inv h; obtain ⟨w_9, ew_10, h⟩ := h
      rw [← ew_10]
      have hl_11 : zL w_9 1 a0 = true := by rw [ew_10]; exact hl0
      have hl_12 : zL w_9 2 a1 = true := by rw [ew_10]; exact hl1
      refine v_aload_n (pc' := 80) hx dX1_keep_79 rfl rfl ?_
      refine v_dup (pc' := 81) hx dX1_keep_80 rfl rfl ?_
      refine v_getI (pc' := 84) hx hl_11 fi_1_10.1 fi_1_10.2.1 fk_X1_65 dX1_keep_81 rfl ?_
      refine v_iconst (pc' := 85) (v := 1) hx dX1_keep_84 (by decide) rfl ?_
      refine v_iadd (pc' := 86) hx dX1_keep_85 rfl ?_
      refine v_putI (pc' := 89) hx hl_11 fi_1_10.1 fi_1_10.2.1 fi_1_10.2.2 fk_X1_65 dX1_keep_86 rfl ?_
      replace h := lt_inv h; obtain ⟨w_13, ew_14, h⟩ := h
      rw [← ew_14]
      have hl_15 : zL w_13 1 a0 = true := by rw [ew_14]; exact hl_11
      have hl_16 : zL w_13 2 a1 = true := by rw [ew_14]; exact hl_12
      exact vX1_keep_b89 hx hq hrec55 hl_15 hl_16 h
theorem vX1_keep_l55 {x : CT} (hx : CX x cX1_keep RX1 rmX1_keep none) {w0 : Wd} (hq : RV x rmX1_keep w0) : ∀ (n : Nat) (a0 : Nat) (a1 : Nat) (x2 : Int32) (w : Wd), (zL w 1 a0 = true) → (zL w 2 a1 = true) → fX1_keep_l55  n a0 a1 x2 w = some w0 → V x 55 [some (.ref a0), some (.ref a1), some (.int x2)] [] (Rp (xD x) w) 0 0 := by
  intro n
  induction n with
  | zero => intro a0 a1 x2 w hl0 hl1 h; cases h
  | succ n ih =>
    intro a0 a1 x2 w hl0 hl1 h
    exact vX1_keep_b55 hx hq  (fun a0 a1 x2 w h hl0 hl1 => ih a0 a1 x2 w hl0 hl1 h) hl0 hl1 h
theorem vX1_keep_b53 {x : CT} (hx : CX x cX1_keep RX1 rmX1_keep none) {w0 : Wd} (hq : RV x rmX1_keep w0) {a0 : Nat} {a1 : Nat} {w : Wd} (hl0 : zL w 1 a0 = true) (hl1 : zL w 2 a1 = true) (h : fX1_keep_b53 a0 a1 w = some w0) : V x 53 [some (.ref a0), some (.ref a1), none] [] (Rp (xD x) w) 0 0 := by
  unfold fX1_keep_b53 at h
  refine v_iconst (pc' := 54) (v := 0) hx dX1_keep_53 (by decide) rfl ?_
  refine v_istore_n (pc' := 55) (L' := [some (.ref a0), some (.ref a1), some (.int 0)]) hx dX1_keep_54 rfl rfl (Nat.le_of_ble_eq_true rfl) ?_
  exact vX1_keep_l55 hx hq 1000 a0 a1 0 w hl0 hl1 h
theorem vX1_keep {x : CT} (hx : CX x cX1_keep RX1 rmX1_keep none) {w0 : Wd} {w : Wd} (hq : RV x rmX1_keep w0) (a0 : Nat) (a1 : Nat) (hl0 : zL w 1 a0 = true) (hl1 : zL w 2 a1 = true) (h : fX1_keep a0 a1 w = some w0) : V x 0 [some (.ref a0), some (.ref a1), none] [] (Rp (xD x) w) 0 0 := by
  unfold fX1_keep at h
  refine v_aload_n (pc' := 1) hx dX1_keep_0 rfl rfl ?_
  refine v_getI (pc' := 4) hx hl1 fi_2_1.1 fi_2_1.2.1 fk_X1_41 dX1_keep_1 rfl ?_
  replace h := bd_inv h; obtain ⟨y_2, hcl_1, h⟩ := h
  refine v_callSi (pc' := 7) (w' := w) (r := y_2) (As := [.int (zI w 2 a1 1 0)]) (rest := []) hx (fun G sz hR => ctX5_isThread (xl x) (xD x) w G sz hR (zI w 2 a1 1 0)  hcl_1) my_X5_isThread ml_X1_44 ⟨by decide, by decide⟩ ⟨by decide, by decide⟩ rfl rfl (Nat.le_of_ble_eq_true rfl) dX1_keep_4 rfl ?_
  refine v_if_ne (tgt := 11) (pc' := 10) hx dX1_keep_7 (by decide) rfl (fun hc_4 => ?_) (fun hc_4 => ?_)
  · rw [if_neg hc_4] at h
    refine v_aload_n (pc' := 12) hx dX1_keep_11 rfl rfl ?_
    refine v_aload_n (pc' := 13) hx dX1_keep_12 rfl rfl ?_
    replace h := bd_inv h; obtain ⟨w_6, hcl_5, h⟩ := h
    refine v_wf (fun hwf_7 => ?_)
    refine v_callVv (pc' := 16) (w' := w_6) (ci := 1) (b := a0) (As := [.ref a1]) (rest := []) hx hl0 (fun G sz hR => ctX1_measureFrom (xl x) (xD x) w G sz hR a0 a1 hl0 hl1 hcl_5) rfl my_X1_measureFrom ml_X1_48 ⟨by decide, by decide⟩ ⟨by decide, by decide⟩ rfl rfl (Nat.le_of_ble_eq_true rfl) dX1_keep_13 rfl ?_
    have hm_9 := kX1_measureFrom hcl_5 hwf_7
    have hl_10 : zL w_6 1 a0 = true := (hm_9.2 _ _ hl0).1
    have hl_11 : zL w_6 2 a1 = true := (hm_9.2 _ _ hl1).1
    refine v_aload_n (pc' := 17) hx dX1_keep_16 rfl rfl ?_
    obtain ⟨g_12, hq_13⟩ : ∃ q, zA w_6 1 a0 1 = q := ⟨_, rfl⟩
    refine v_getAq (pc' := 20) hx hl_10 fi_1_1.1 (by decide) hq_13 fk_X1_17 dX1_keep_17 rfl ?_
    refine v_aload_n (pc' := 21) hx dX1_keep_20 rfl rfl ?_
    refine v_getI (pc' := 24) hx hl_11 fi_2_1.1 fi_2_1.2.1 fk_X1_41 dX1_keep_21 rfl ?_
    refine v_aload_n (pc' := 25) hx dX1_keep_24 rfl rfl ?_
    replace h := ckp_inv h; obtain ⟨hk_14, h⟩ := h
    refine v_aastq (pc' := 26) (t0 := 3) hx hl_10 fi_1_1.1 fi_1_1.2.1 rfl rfl (by decide) hl_11 rfl hk_14 hq_13 dX1_keep_25 rfl ?_
    replace h := lt_inv h; obtain ⟨w_15, ew_16, h⟩ := h
    rw [← ew_16]
    have hl_17 : zL w_15 1 a0 = true := by rw [ew_16]; exact hl_10
    have hl_18 : zL w_15 2 a1 = true := by rw [ew_16]; exact hl_11
    have hwf_19 : WF w_15 := by rw [ew_16]; exact hm_9.1
    refine v_aload_n (pc' := 27) hx dX1_keep_26 rfl rfl ?_
    refine v_dup (pc' := 28) hx dX1_keep_27 rfl rfl ?_
    refine v_getI (pc' := 31) hx hl_17 fi_1_8.1 fi_1_8.2.1 fk_X1_52 dX1_keep_28 rfl ?_
    refine v_iconst (pc' := 32) (v := 1) hx dX1_keep_31 (by decide) rfl ?_
    refine v_iadd (pc' := 33) hx dX1_keep_32 rfl ?_
    refine v_putI (pc' := 36) hx hl_17 fi_1_8.1 fi_1_8.2.1 fi_1_8.2.2 fk_X1_52 dX1_keep_33 rfl ?_
    replace h := lt_inv h; obtain ⟨w_20, ew_21, h⟩ := h
    rw [← ew_21]
    have hl_22 : zL w_20 1 a0 = true := by rw [ew_21]; exact hl_17
    have hl_23 : zL w_20 2 a1 = true := by rw [ew_21]; exact hl_18
    have hwf_24 : WF w_20 := by rw [ew_21]; exact hwf_19
    refine v_aload_n (pc' := 37) hx dX1_keep_36 rfl rfl ?_
    replace h := bd_inv h; obtain ⟨y_26, hcl_25, h⟩ := h
    refine v_callVi (pc' := 40) (w' := w_20) (r := y_26) (ci := 2) (b := a1) (As := []) (rest := []) hx hl_23 (fun G sz hR => ctX2_isWaiting (xl x) (xD x) w_20 G sz hR a1 hl_23 hcl_25) rfl my_X2_isWaiting ml_X1_55 ⟨by decide, by decide⟩ ⟨by decide, by decide⟩ rfl rfl (Nat.le_of_ble_eq_true rfl) dX1_keep_37 rfl ?_
    refine v_if_eq (tgt := 53) (pc' := 43) hx dX1_keep_40 (by decide) rfl (fun hc_28 => ?_) (fun hc_28 => ?_)
    · rw [if_pos hc_28] at h
      exact vX1_keep_b53 hx hq hl_22 hl_23 h
    · rw [if_neg hc_28] at h
      refine v_aload_n (pc' := 44) hx dX1_keep_43 rfl rfl ?_
      refine v_dup (pc' := 45) hx dX1_keep_44 rfl rfl ?_
      refine v_getI (pc' := 48) hx hl_22 fi_1_9.1 fi_1_9.2.1 fk_X1_59 dX1_keep_45 rfl ?_
      refine v_iconst (pc' := 49) (v := 1) hx dX1_keep_48 (by decide) rfl ?_
      refine v_iadd (pc' := 50) hx dX1_keep_49 rfl ?_
      refine v_putI (pc' := 53) hx hl_22 fi_1_9.1 fi_1_9.2.1 fi_1_9.2.2 fk_X1_59 dX1_keep_50 rfl ?_
      replace h := lt_inv h; obtain ⟨w_29, ew_30, h⟩ := h
      rw [← ew_30]
      have hl_31 : zL w_29 1 a0 = true := by rw [ew_30]; exact hl_22
      have hl_32 : zL w_29 2 a1 = true := by rw [ew_30]; exact hl_23
      have hwf_33 : WF w_29 := by rw [ew_30]; exact hwf_24
      exact vX1_keep_b53 hx hq hl_31 hl_32 h
  · rw [if_pos hc_4] at h
    exact v_vret hx hq (by decide) (by decide) dX1_keep_10 (by cases h; rfl)
theorem ctX1_keep (l : Launch) (D : DD) (w : Wd) (G : GT) (sz : Nat) (hR : Rp D w G sz) (a0 : Nat) (a1 : Nat) (hl0 : zL w 1 a0 = true) (hl1 : zL w 2 a1 = true) {w0 : Wd} (h : fX1_keep a0 a1 w = some w0) : MetV l yX1_keep (WS yX1_keep cX1_keep 3 none) rmX1_keep D [.ref a0, .ref a1] G sz w0 := by
  refine MetV_ofV (own := RX1) (P := Rp D w) hR (by decide) rfl (by simp [Value.category]) (Nat.le_of_ble_eq_true rfl) (fun x hx hq hD hl => ?_)
  subst hD
  exact vX1_keep hx hq a0 a1 hl0 hl1 h
theorem vX2_waitsAtBit_b17 {x : CT} (hx : CX x cX2_waitsAtBit RX2 rmX2_waitsAtBit (some .int)) {r0 : Int32} {w : Wd} (hq : RI x rmX2_waitsAtBit r0 w) {xs0 : Int32} (h : fX2_waitsAtBit_b17 w xs0 = some r0) : V x 17 [none] [.int xs0] (Rp (xD x) w) 0 0 := by
  unfold fX2_waitsAtBit_b17 at h
  exact v_iret hx hq (by decide) (by decide) dX2_waitsAtBit_17 (by cases h; rfl)
theorem vX2_waitsAtBit {x : CT} (hx : CX x cX2_waitsAtBit RX2 rmX2_waitsAtBit (some .int)) {r0 : Int32} {w : Wd} (hq : RI x rmX2_waitsAtBit r0 w) (a0 : Nat) (hl0 : zL w 2 a0 = true) (h : fX2_waitsAtBit a0 w = some r0) : V x 0 [some (.ref a0)] [] (Rp (xD x) w) 0 0 := by
  unfold fX2_waitsAtBit at h
  refine v_aload_n (pc' := 1) hx dX2_waitsAtBit_0 rfl rfl ?_
  replace h := bd_inv h; obtain ⟨y_2, hcl_1, h⟩ := h
  refine v_callVi (pc' := 4) (w' := w) (r := y_2) (ci := 2) (b := a0) (As := []) (rest := []) hx hl0 (fun G sz hR => ctX2_isWaiting (xl x) (xD x) w G sz hR a0 hl0 hcl_1) rfl my_X2_isWaiting ml_X2_32 ⟨by decide, by decide⟩ ⟨by decide, by decide⟩ rfl rfl (Nat.le_of_ble_eq_true rfl) dX2_waitsAtBit_1 rfl ?_
  refine v_if_eq (tgt := 16) (pc' := 7) hx dX2_waitsAtBit_4 (by decide) rfl (fun hc_4 => ?_) (fun hc_4 => ?_)
  · rw [if_pos hc_4] at h
    refine v_iconst (pc' := 17) (v := 0) hx dX2_waitsAtBit_16 (by decide) rfl ?_
    refine V.sb (L' := [none]) ⟨Or.inl rfl, trivial⟩ ?_
    exact vX2_waitsAtBit_b17 hx hq h
  · rw [if_neg hc_4] at h
    refine v_iconst (pc' := 8) (v := 1) hx dX2_waitsAtBit_7 (by decide) rfl ?_
    refine v_aload_n (pc' := 9) hx dX2_waitsAtBit_8 rfl rfl ?_
    refine v_getI (pc' := 12) hx hl0 fi_2_5.1 fi_2_5.2.1 fk_X2_19 dX2_waitsAtBit_9 rfl ?_
    refine v_ishl (pc' := 13) hx dX2_waitsAtBit_12 rfl ?_
    refine v_goto (tgt := 17) hx dX2_waitsAtBit_13 (by decide) ?_
    refine V.sb (L' := [none]) ⟨Or.inl rfl, trivial⟩ ?_
    exact vX2_waitsAtBit_b17 hx hq h
theorem ctX2_waitsAtBit (l : Launch) (D : DD) (w : Wd) (G : GT) (sz : Nat) (hR : Rp D w G sz) (a0 : Nat) (hl0 : zL w 2 a0 = true) {r0 : Int32} (h : fX2_waitsAtBit a0 w = some r0) : MetI l yX2_waitsAtBit (WS yX2_waitsAtBit cX2_waitsAtBit 1 (some .int)) rmX2_waitsAtBit D [.ref a0] G sz r0 w := by
  refine MetI_ofV (own := RX2) (P := Rp D w) hR (by decide) rfl (by simp [Value.category]) (Nat.le_of_ble_eq_true rfl) (fun x hx hq hD hl => ?_)
  subst hD
  exact vX2_waitsAtBit hx hq a0 hl0 h
theorem vX1_awaitedBy_b22 {x : CT} (hx : CX x cX1_awaitedBy RX1 rmX1_awaitedBy (some .int)) {r0 : Int32} {w : Wd} (hq : RI x rmX1_awaitedBy r0 w) {xs0 : Int32} (h : fX1_awaitedBy_b22 w xs0 = some r0) : V x 22 [none, none, none] [.int xs0] (Rp (xD x) w) 0 0 := by
  unfold fX1_awaitedBy_b22 at h
  exact v_iret hx hq (by decide) (by decide) dX1_awaitedBy_22 (by cases h; rfl)
theorem vX1_awaitedBy {x : CT} (hx : CX x cX1_awaitedBy RX1 rmX1_awaitedBy (some .int)) {r0 : Int32} {w : Wd} (hq : RI x rmX1_awaitedBy r0 w) (a0 : Nat) (x1 : Int32) (hl0 : zL w 1 a0 = true) (h : fX1_awaitedBy a0 x1 w = some r0) : V x 0 [some (.ref a0), some (.int x1), none] [] (Rp (xD x) w) 0 0 := by
  unfold fX1_awaitedBy at h
  refine v_aload_n (pc' := 1) hx dX1_awaitedBy_0 rfl rfl ?_
  refine v_iload_n (pc' := 2) hx dX1_awaitedBy_1 rfl rfl ?_
  replace h := bd_inv h; obtain ⟨u_2, hcl_1, h⟩ := h
  refine v_callVq (pc' := 5) (w' := w) (q := u_2) (ci := 1) (b := a0) (As := [.int x1]) (rest := []) hx hl0 (fun G sz hR => ctX1_rowOf (xl x) (xD x) w G sz hR a0 x1 hl0 hcl_1) rfl my_X1_rowOf ml_X1_75 ⟨by decide, by decide⟩ ⟨by decide, by decide⟩ rfl rfl (Nat.le_of_ble_eq_true rfl) dX1_awaitedBy_2 rfl (fun hl_3 => ?_)
  refine v_astoreq_n (pc' := 6) (L' := [some (.ref a0), some (.int x1), some (va_rf u_2)]) hx dX1_awaitedBy_5 rfl rfl (Nat.le_of_ble_eq_true rfl) ?_
  refine v_aloadq_n (pc' := 7) hx dX1_awaitedBy_6 rfl rfl ?_
  refine v_ifnonnull (tgt := 14) (pc' := 10) hx dX1_awaitedBy_7 (by decide) rfl (fun b_4 hn_5 => ?_) (fun hn_5 => ?_)
  · subst hn_5
    rw [oc_s] at h
    have hl_6 : zL w 2 b_4 = true := hl_3 _ rfl
    refine v_aload_n (pc' := 15) hx dX1_awaitedBy_14 rfl rfl ?_
    refine v_aload_n (pc' := 16) hx dX1_awaitedBy_15 rfl rfl ?_
    refine v_getI (pc' := 19) hx hl_6 fi_2_5.1 fi_2_5.2.1 fk_X1_79 dX1_awaitedBy_16 rfl ?_
    replace h := bd_inv h; obtain ⟨y_8, hcl_7, h⟩ := h
    refine v_callVi (pc' := 22) (w' := w) (r := y_8) (ci := 1) (b := a0) (As := [.int (zI w 2 b_4 5 0)]) (rest := []) hx hl0 (fun G sz hR => ctX1_holderOf (xl x) (xD x) w G sz hR a0 (zI w 2 b_4 5 0) hl0 hcl_7) rfl my_X1_holderOf ml_X1_82 ⟨by decide, by decide⟩ ⟨by decide, by decide⟩ rfl rfl (Nat.le_of_ble_eq_true rfl) dX1_awaitedBy_19 rfl ?_
    refine V.sb (L' := [none, none, none]) ⟨Or.inl rfl, Or.inl rfl, Or.inl rfl, trivial⟩ ?_
    exact vX1_awaitedBy_b22 hx hq h
  · subst hn_5
    rw [oc_n] at h
    refine v_iconst (pc' := 11) (v := (-1)) hx dX1_awaitedBy_10 (by decide) rfl ?_
    refine v_goto (tgt := 22) hx dX1_awaitedBy_11 (by decide) ?_
    refine V.sb (L' := [none, none, none]) ⟨Or.inl rfl, Or.inl rfl, Or.inl rfl, trivial⟩ ?_
    exact vX1_awaitedBy_b22 hx hq h
theorem ctX1_awaitedBy (l : Launch) (D : DD) (w : Wd) (G : GT) (sz : Nat) (hR : Rp D w G sz) (a0 : Nat) (x1 : Int32) (hl0 : zL w 1 a0 = true) {r0 : Int32} (h : fX1_awaitedBy a0 x1 w = some r0) : MetI l yX1_awaitedBy (WS yX1_awaitedBy cX1_awaitedBy 3 (some .int)) rmX1_awaitedBy D [.ref a0, .int x1] G sz r0 w := by
  refine MetI_ofV (own := RX1) (P := Rp D w) hR (by decide) rfl (by simp [Value.category]) (Nat.le_of_ble_eq_true rfl) (fun x hx hq hD hl => ?_)
  subst hD
  exact vX1_awaitedBy hx hq a0 x1 hl0 h
theorem kX1_followChainOf_b82 {w0 : Wd} {w wb : Wd} (hm : mo wb w) (h : fX1_followChainOf_b82 w = some w0) : mo wb w0 := by
  unfold fX1_followChainOf_b82 at h
  cases h; exact hm
theorem kX1_followChainOf_b9 {w0 : Wd} {rec9 : Nat → Int32 → (Option Nat) → Int32 → Wd → Option (Wd)} {a0 : Nat} {x1 : Int32} {r2 : Option Nat} {x3 : Int32} {w wb : Wd} (hkr9 : ∀ (a0 : Nat) (x1 : Int32) (r2 : Option Nat) (x3 : Int32) (w : Wd), rec9 a0 x1 r2 x3 w = some w0 → mo wb w → mo wb w0) (hm : mo wb w) (h : fX1_followChainOf_b9 rec9 a0 x1 r2 x3 w = some w0) : mo wb w0 := by
  unfold fX1_followChainOf_b9 at h
  by_cases hc_1 : 24 ≤ x3
  · rw [if_pos hc_1] at h
    exact kX1_followChainOf_b82 hm h
  · rw [if_neg hc_1] at h
    rcases r2 with _ | b_2
    · rw [oc_n] at h
      exact kX1_followChainOf_b82 hm h
    · rw [oc_s] at h
      replace h := ckp_inv h; obtain ⟨hk_7, h⟩ := h
      replace h := bd_inv h; obtain ⟨y_9, hcl_8, h⟩ := h
      by_cases hc_11 : y_9 = 0
      · rw [if_pos hc_11] at h
        replace h := ckp_inv h; obtain ⟨hk_14, h⟩ := h
        replace h := ckp_inv h; obtain ⟨hk_15, h⟩ := h
        replace h := lt_inv h; obtain ⟨w_16, ew_17, h⟩ := h
        have hm := mo_eI hm ew_17
        replace h := ckp_inv h; obtain ⟨hk_22, h⟩ := h
        replace h := bd_inv h; obtain ⟨y_24, hcl_23, h⟩ := h
        replace h := ckp_inv h; obtain ⟨hk_26, h⟩ := h
        replace h := lt_inv h; obtain ⟨w_27, ew_28, h⟩ := h
        have hm := mo_eI hm ew_28
        replace h := bd_inv h; obtain ⟨y_32, hcl_31, h⟩ := h
        replace h := bd_inv h; obtain ⟨u_35, hcl_34, h⟩ := h
        exact hkr9 a0 x1 u_35 (x3 + 1) w_27 h hm
      · rw [if_neg hc_11] at h
        exact kX1_followChainOf_b82 hm h
theorem kX1_followChainOf_l9 {w0 : Wd} {wb : Wd} : ∀ (n : Nat) (a0 : Nat) (x1 : Int32) (r2 : Option Nat) (x3 : Int32) (w : Wd), mo wb w → fX1_followChainOf_l9  n a0 x1 r2 x3 w = some w0 → mo wb w0 := by
  intro n
  induction n with
  | zero => intro a0 x1 r2 x3 w hm h; cases h
  | succ n ih =>
    intro a0 x1 r2 x3 w hm h
    exact kX1_followChainOf_b9  (fun a0 x1 r2 x3 w h hm => ih a0 x1 r2 x3 w hm h) hm h
theorem kX1_followChainOf {w0 : Wd} {a0 : Nat} {x1 : Int32} {w : Wd} (h : fX1_followChainOf a0 x1 w = some w0) : mo w w0 := by
  have hm := mo_rf w
  unfold fX1_followChainOf at h
  replace h := ckp_inv h; obtain ⟨hk_3, h⟩ := h
  replace h := lt_inv h; obtain ⟨u_4, er_5, h⟩ := h
  exact kX1_followChainOf_l9 1000 a0 x1 u_4 0 w hm h
theorem vX1_followChainOf_b82 {x : CT} (hx : CX x cX1_followChainOf RX1 rmX1_followChainOf none) {w0 : Wd} (hq : RV x rmX1_followChainOf w0) {w : Wd} (h : fX1_followChainOf_b82 w = some w0) : V x 82 [none, none, none, none] [] (Rp (xD x) w) 0 0 := by
  unfold fX1_followChainOf_b82 at h
  exact v_vret hx hq (by decide) (by decide) dX1_followChainOf_82 (by cases h; rfl)
theorem vX1_followChainOf_b9 {x : CT} (hx : CX x cX1_followChainOf RX1 rmX1_followChainOf none) {w0 : Wd} (hq : RV x rmX1_followChainOf w0) {rec9 : Nat → Int32 → (Option Nat) → Int32 → Wd → Option (Wd)} {a0 : Nat} {x1 : Int32} {r2 : Option Nat} {x3 : Int32} {w : Wd} (hrec9 : ∀ (a0 : Nat) (x1 : Int32) (r2 : Option Nat) (x3 : Int32) (w : Wd), rec9 a0 x1 r2 x3 w = some w0 → (zL w 1 a0 = true) → (∀ b, r2 = some b → zL w 2 b = true) → V x 9 [some (.ref a0), some (.int x1), some (va_rf r2), some (.int x3)] [] (Rp (xD x) w) 0 0) (hl0 : zL w 1 a0 = true) (hl2 : ∀ b, r2 = some b → zL w 2 b = true) (h : fX1_followChainOf_b9 rec9 a0 x1 r2 x3 w = some w0) : V x 9 [some (.ref a0), some (.int x1), some (va_rf r2), some (.int x3)] [] (Rp (xD x) w) 0 0 := by
  unfold fX1_followChainOf_b9 at h
  refine v_iload_n (pc' := 10) hx dX1_followChainOf_9 rfl rfl ?_
  refine v_bipush (pc' := 12) (v := 24) hx dX1_followChainOf_10 (by decide) rfl ?_
  refine v_icmp_ge (tgt := 82) (pc' := 15) hx dX1_followChainOf_12 (by decide) rfl (fun hc_1 => ?_) (fun hc_1 => ?_)
  · rw [if_pos hc_1] at h
    refine V.sb (L' := [none, none, none, none]) ⟨Or.inl rfl, Or.inl rfl, Or.inl rfl, Or.inl rfl, trivial⟩ ?_
    exact vX1_followChainOf_b82 hx hq h
  · rw [if_neg hc_1] at h
    refine v_aloadq_n (pc' := 16) hx dX1_followChainOf_15 rfl rfl ?_
    refine v_ifnull (tgt := 82) (pc' := 19) hx dX1_followChainOf_16 (by decide) rfl (fun hn_3 => ?_) (fun b_2 hn_3 => ?_)
    · subst hn_3
      rw [oc_n] at h
      refine V.sb (L' := [none, none, none, none]) ⟨Or.inl rfl, Or.inl rfl, Or.inl rfl, Or.inl rfl, trivial⟩ ?_
      exact vX1_followChainOf_b82 hx hq h
    · subst hn_3
      rw [oc_s] at h
      have hl_4 : zL w 2 b_2 = true := hl2 _ rfl
      refine v_aload_n (pc' := 20) hx dX1_followChainOf_19 rfl rfl ?_
      obtain ⟨g_5, hq_6⟩ : ∃ q, zA w 1 a0 3 = q := ⟨_, rfl⟩
      refine v_getAq (pc' := 23) hx hl0 fi_1_3.1 (by decide) hq_6 fk_X1_25 dX1_followChainOf_20 rfl ?_
      refine v_iload_n (pc' := 24) hx dX1_followChainOf_23 rfl rfl ?_
      replace h := ckp_inv h; obtain ⟨hk_7, h⟩ := h
      refine v_ialdq (pc' := 25) hx hl0 fi_1_3.1 fi_1_3.2.1 rfl hk_7 hq_6 dX1_followChainOf_24 rfl ?_
      refine v_aload_n (pc' := 26) hx dX1_followChainOf_25 rfl rfl ?_
      refine v_getI (pc' := 29) hx hl_4 fi_2_1.1 fi_2_1.2.1 fk_X1_41 dX1_followChainOf_26 rfl ?_
      replace h := bd_inv h; obtain ⟨y_9, hcl_8, h⟩ := h
      refine v_callSi (pc' := 32) (w' := w) (r := y_9) (As := [.int (zI w 1 a0 3 (x1 : Int32).toNatClampNeg), .int (zI w 2 b_2 1 0)]) (rest := []) hx (fun G sz hR => ctX5_hasBit (xl x) (xD x) w G sz hR (zI w 1 a0 3 (x1 : Int32).toNatClampNeg) (zI w 2 b_2 1 0)  hcl_8) my_X5_hasBit ml_X1_100 ⟨by decide, by decide⟩ ⟨by decide, by decide⟩ rfl rfl (Nat.le_of_ble_eq_true rfl) dX1_followChainOf_29 rfl ?_
      refine v_if_ne (tgt := 82) (pc' := 35) hx dX1_followChainOf_32 (by decide) rfl (fun hc_11 => ?_) (fun hc_11 => ?_)
      · rw [if_neg hc_11] at h
        refine V.sb (L' := [none, none, none, none]) ⟨Or.inl rfl, Or.inl rfl, Or.inl rfl, Or.inl rfl, trivial⟩ ?_
        exact vX1_followChainOf_b82 hx hq h
      · rw [if_pos hc_11] at h
        refine v_aload_n (pc' := 36) hx dX1_followChainOf_35 rfl rfl ?_
        obtain ⟨g_12, hq_13⟩ : ∃ q, zA w 1 a0 3 = q := ⟨_, rfl⟩
        refine v_getAq (pc' := 39) hx hl0 fi_1_3.1 (by decide) hq_13 fk_X1_25 dX1_followChainOf_36 rfl ?_
        refine v_iload_n (pc' := 40) hx dX1_followChainOf_39 rfl rfl ?_
        refine v_dup2 (pc' := 41) hx dX1_followChainOf_40 rfl rfl rfl ?_
        replace h := ckp_inv h; obtain ⟨hk_14, h⟩ := h
        refine v_ialdq (pc' := 42) hx hl0 fi_1_3.1 fi_1_3.2.1 rfl hk_14 hq_13 dX1_followChainOf_41 rfl ?_
        refine v_iconst (pc' := 43) (v := 1) hx dX1_followChainOf_42 (by decide) rfl ?_
        refine v_aload_n (pc' := 44) hx dX1_followChainOf_43 rfl rfl ?_
        refine v_getI (pc' := 47) hx hl_4 fi_2_1.1 fi_2_1.2.1 fk_X1_41 dX1_followChainOf_44 rfl ?_
        refine v_ishl (pc' := 48) hx dX1_followChainOf_47 rfl ?_
        refine v_ior (pc' := 49) hx dX1_followChainOf_48 rfl ?_
        replace h := ckp_inv h; obtain ⟨hk_15, h⟩ := h
        refine v_iastq (pc' := 50) hx hl0 fi_1_3.1 fi_1_3.2.1 rfl hk_15 hq_13 dX1_followChainOf_49 rfl ?_
        replace h := lt_inv h; obtain ⟨w_16, ew_17, h⟩ := h
        rw [← ew_17]
        have hl_18 : zL w_16 1 a0 = true := by rw [ew_17]; exact hl0
        have hl_19 : zL w_16 2 b_2 = true := by rw [ew_17]; exact hl_4
        refine v_aload_n (pc' := 51) hx dX1_followChainOf_50 rfl rfl ?_
        obtain ⟨g_20, hq_21⟩ : ∃ q, zA w_16 1 a0 4 = q := ⟨_, rfl⟩
        refine v_getAq (pc' := 54) hx hl_18 fi_1_4.1 (by decide) hq_21 fk_X1_28 dX1_followChainOf_51 rfl ?_
        refine v_iload_n (pc' := 55) hx dX1_followChainOf_54 rfl rfl ?_
        refine v_dup2 (pc' := 56) hx dX1_followChainOf_55 rfl rfl rfl ?_
        replace h := ckp_inv h; obtain ⟨hk_22, h⟩ := h
        refine v_ialdq (pc' := 57) hx hl_18 fi_1_4.1 fi_1_4.2.1 rfl hk_22 hq_21 dX1_followChainOf_56 rfl ?_
        refine v_aload_n (pc' := 58) hx dX1_followChainOf_57 rfl rfl ?_
        replace h := bd_inv h; obtain ⟨y_24, hcl_23, h⟩ := h
        refine v_callVi (pc' := 61) (w' := w_16) (r := y_24) (ci := 2) (b := b_2) (As := []) (rest := [.int (zI w_16 1 a0 4 (x1 : Int32).toNatClampNeg), .int x1, .ref g_20]) hx hl_19 (fun G sz hR => ctX2_waitsAtBit (xl x) (xD x) w_16 G sz hR b_2 hl_19 hcl_23) rfl my_X2_waitsAtBit ml_X1_104 ⟨by decide, by decide⟩ ⟨by decide, by decide⟩ rfl rfl (Nat.le_of_ble_eq_true rfl) dX1_followChainOf_58 rfl ?_
        refine v_ior (pc' := 62) hx dX1_followChainOf_61 rfl ?_
        replace h := ckp_inv h; obtain ⟨hk_26, h⟩ := h
        refine v_iastq (pc' := 63) hx hl_18 fi_1_4.1 fi_1_4.2.1 rfl hk_26 hq_21 dX1_followChainOf_62 rfl ?_
        replace h := lt_inv h; obtain ⟨w_27, ew_28, h⟩ := h
        rw [← ew_28]
        have hl_29 : zL w_27 1 a0 = true := by rw [ew_28]; exact hl_18
        have hl_30 : zL w_27 2 b_2 = true := by rw [ew_28]; exact hl_19
        refine v_aload_n (pc' := 64) hx dX1_followChainOf_63 rfl rfl ?_
        refine v_aload_n (pc' := 65) hx dX1_followChainOf_64 rfl rfl ?_
        refine v_aload_n (pc' := 66) hx dX1_followChainOf_65 rfl rfl ?_
        refine v_getI (pc' := 69) hx hl_30 fi_2_1.1 fi_2_1.2.1 fk_X1_41 dX1_followChainOf_66 rfl ?_
        replace h := bd_inv h; obtain ⟨y_32, hcl_31, h⟩ := h
        refine v_callVi (pc' := 72) (w' := w_27) (r := y_32) (ci := 1) (b := a0) (As := [.int (zI w_27 2 b_2 1 0)]) (rest := [.ref a0]) hx hl_29 (fun G sz hR => ctX1_awaitedBy (xl x) (xD x) w_27 G sz hR a0 (zI w_27 2 b_2 1 0) hl_29 hcl_31) rfl my_X1_awaitedBy ml_X1_89 ⟨by decide, by decide⟩ ⟨by decide, by decide⟩ rfl rfl (Nat.le_of_ble_eq_true rfl) dX1_followChainOf_69 rfl ?_
        replace h := bd_inv h; obtain ⟨u_35, hcl_34, h⟩ := h
        refine v_callVq (pc' := 75) (w' := w_27) (q := u_35) (ci := 1) (b := a0) (As := [.int y_32]) (rest := []) hx hl_29 (fun G sz hR => ctX1_rowOf (xl x) (xD x) w_27 G sz hR a0 y_32 hl_29 hcl_34) rfl my_X1_rowOf ml_X1_75 ⟨by decide, by decide⟩ ⟨by decide, by decide⟩ rfl rfl (Nat.le_of_ble_eq_true rfl) dX1_followChainOf_72 rfl (fun hl_36 => ?_)
        refine v_astoreq_n (pc' := 76) (L' := [some (.ref a0), some (.int x1), some (va_rf u_35), some (.int x3)]) hx dX1_followChainOf_75 rfl rfl (Nat.le_of_ble_eq_true rfl) ?_
        refine v_iinc (pc' := 79) (w0 := (x3 + 1)) (L' := [some (.ref a0), some (.int x1), some (va_rf u_35), some (.int (x3 + 1))]) hx dX1_followChainOf_76 rfl rfl rfl rfl ?_
        refine v_goto (tgt := 9) hx dX1_followChainOf_79 (by decide) ?_
        exact hrec9 a0 x1 u_35 (x3 + 1) w_27 h hl_29 hl_36
theorem vX1_followChainOf_l9 {x : CT} (hx : CX x cX1_followChainOf RX1 rmX1_followChainOf none) {w0 : Wd} (hq : RV x rmX1_followChainOf w0) : ∀ (n : Nat) (a0 : Nat) (x1 : Int32) (r2 : Option Nat) (x3 : Int32) (w : Wd), (zL w 1 a0 = true) → (∀ b, r2 = some b → zL w 2 b = true) → fX1_followChainOf_l9  n a0 x1 r2 x3 w = some w0 → V x 9 [some (.ref a0), some (.int x1), some (va_rf r2), some (.int x3)] [] (Rp (xD x) w) 0 0 := by
  intro n
  induction n with
  | zero => intro a0 x1 r2 x3 w hl0 hl2 h; cases h
  | succ n ih =>
    intro a0 x1 r2 x3 w hl0 hl2 h
    exact vX1_followChainOf_b9 hx hq  (fun a0 x1 r2 x3 w h hl0 hl2 => ih a0 x1 r2 x3 w hl0 hl2 h) hl0 hl2 h
theorem vX1_followChainOf {x : CT} (hx : CX x cX1_followChainOf RX1 rmX1_followChainOf none) {w0 : Wd} {w : Wd} (hq : RV x rmX1_followChainOf w0) (a0 : Nat) (x1 : Int32) (hl0 : zL w 1 a0 = true) (h : fX1_followChainOf a0 x1 w = some w0) : V x 0 [some (.ref a0), some (.int x1), none, none] [] (Rp (xD x) w) 0 0 := by
  unfold fX1_followChainOf at h
  refine v_aload_n (pc' := 1) hx dX1_followChainOf_0 rfl rfl ?_
  obtain ⟨g_1, hq_2⟩ : ∃ q, zA w 1 a0 1 = q := ⟨_, rfl⟩
  refine v_getAq (pc' := 4) hx hl0 fi_1_1.1 (by decide) hq_2 fk_X1_17 dX1_followChainOf_1 rfl ?_
  refine v_iload_n (pc' := 5) hx dX1_followChainOf_4 rfl rfl ?_
  replace h := ckp_inv h; obtain ⟨hk_3, h⟩ := h
  refine v_aaldq (pc' := 6) hx hl0 fi_1_1.1 fi_1_1.2.2 rfl hk_3 hq_2 dX1_followChainOf_5 rfl ?_
  replace h := lt_inv h; obtain ⟨u_4, er_5, h⟩ := h
  rw [← er_5]
  refine v_liv hl0 (fun ht_6 => ?_)
  have hl_7 : ∀ b, u_4 = some b → zL w 2 b = true := fun b hb => ht_6 1 _ b (er_5.symm.trans hb)
  refine v_astoreq_n (pc' := 7) (L' := [some (.ref a0), some (.int x1), some (va_rf u_4), none]) hx dX1_followChainOf_6 rfl rfl (Nat.le_of_ble_eq_true rfl) ?_
  refine v_iconst (pc' := 8) (v := 0) hx dX1_followChainOf_7 (by decide) rfl ?_
  refine v_istore_n (pc' := 9) (L' := [some (.ref a0), some (.int x1), some (va_rf u_4), some (.int 0)]) hx dX1_followChainOf_8 rfl rfl (Nat.le_of_ble_eq_true rfl) ?_
  exact vX1_followChainOf_l9 hx hq 1000 a0 x1 u_4 0 w hl0 hl_7 h
theorem ctX1_followChainOf (l : Launch) (D : DD) (w : Wd) (G : GT) (sz : Nat) (hR : Rp D w G sz) (a0 : Nat) (x1 : Int32) (hl0 : zL w 1 a0 = true) {w0 : Wd} (h : fX1_followChainOf a0 x1 w = some w0) : MetV l yX1_followChainOf (WS yX1_followChainOf cX1_followChainOf 4 none) rmX1_followChainOf D [.ref a0, .int x1] G sz w0 := by
  refine MetV_ofV (own := RX1) (P := Rp D w) hR (by decide) rfl (by simp [Value.category]) (Nat.le_of_ble_eq_true rfl) (fun x hx hq hD hl => ?_)
  subst hD
  exact vX1_followChainOf hx hq a0 x1 hl0 h
theorem kX1_followChains_b2 {w0 : Wd} {rec2 : Nat → Int32 → Wd → Option (Wd)} {a0 : Nat} {x1 : Int32} {w wb : Wd} (hkr2 : ∀ (a0 : Nat) (x1 : Int32) (w : Wd), rec2 a0 x1 w = some w0 → mo wb w → mo wb w0) (hm : mo wb w) (h : fX1_followChains_b2 rec2 a0 x1 w = some w0) : mo wb w0 := by
  unfold fX1_followChains_b2 at h
  by_cases hc_1 : 24 ≤ x1
  · rw [if_pos hc_1] at h
    cases h; exact hm
  · rw [if_neg hc_1] at h
    replace h := bd_inv h; obtain ⟨w_3, hcl_2, h⟩ := h
    have hm := hm.tr (kX1_followChainOf hcl_2)
    exact hkr2 a0 (x1 + 1) w_3 h hm
theorem kX1_followChains_l2 {w0 : Wd} {wb : Wd} : ∀ (n : Nat) (a0 : Nat) (x1 : Int32) (w : Wd), mo wb w → fX1_followChains_l2  n a0 x1 w = some w0 → mo wb w0 := by
  intro n
  induction n with
  | zero => intro a0 x1 w hm h; cases h
  | succ n ih =>
    intro a0 x1 w hm h
    exact kX1_followChains_b2  (fun a0 x1 w h hm => ih a0 x1 w hm h) hm h
theorem kX1_followChains {w0 : Wd} {a0 : Nat} {w : Wd} (h : fX1_followChains a0 w = some w0) : mo w w0 := by
  have hm := mo_rf w
  unfold fX1_followChains at h
  exact kX1_followChains_l2 1000 a0 0 w hm h
theorem vX1_followChains_b2 {x : CT} (hx : CX x cX1_followChains RX1 rmX1_followChains none) {w0 : Wd} (hq : RV x rmX1_followChains w0) {rec2 : Nat → Int32 → Wd → Option (Wd)} {a0 : Nat} {x1 : Int32} {w : Wd} (hrec2 : ∀ (a0 : Nat) (x1 : Int32) (w : Wd), rec2 a0 x1 w = some w0 → (zL w 1 a0 = true) → V x 2 [some (.ref a0), some (.int x1)] [] (Rp (xD x) w) 0 0) (hl0 : zL w 1 a0 = true) (h : fX1_followChains_b2 rec2 a0 x1 w = some w0) : V x 2 [some (.ref a0), some (.int x1)] [] (Rp (xD x) w) 0 0 := by
  unfold fX1_followChains_b2 at h
  refine v_iload_n (pc' := 3) hx dX1_followChains_2 rfl rfl ?_
  refine v_bipush (pc' := 5) (v := 24) hx dX1_followChains_3 (by decide) rfl ?_
  refine v_icmp_ge (tgt := 19) (pc' := 8) hx dX1_followChains_5 (by decide) rfl (fun hc_1 => ?_) (fun hc_1 => ?_)
  · rw [if_pos hc_1] at h
    exact v_vret hx hq (by decide) (by decide) dX1_followChains_19 (by cases h; rfl)
  · rw [if_neg hc_1] at h
    refine v_aload_n (pc' := 9) hx dX1_followChains_8 rfl rfl ?_
    refine v_iload_n (pc' := 10) hx dX1_followChains_9 rfl rfl ?_
    replace h := bd_inv h; obtain ⟨w_3, hcl_2, h⟩ := h
    refine v_wf (fun hwf_4 => ?_)
    refine v_callVv (pc' := 13) (w' := w_3) (ci := 1) (b := a0) (As := [.int x1]) (rest := []) hx hl0 (fun G sz hR => ctX1_followChainOf (xl x) (xD x) w G sz hR a0 x1 hl0 hcl_2) rfl my_X1_followChainOf ml_X1_96 ⟨by decide, by decide⟩ ⟨by decide, by decide⟩ rfl rfl (Nat.le_of_ble_eq_true rfl) dX1_followChains_10 rfl ?_
    have hm_6 := kX1_followChainOf hcl_2 hwf_4
    have hl_7 : zL w_3 1 a0 = true := (hm_6.2 _ _ hl0).1
    refine v_iinc (pc' := 16) (w0 := (x1 + 1)) (L' := [some (.ref a0), some (.int (x1 + 1))]) hx dX1_followChains_13 rfl rfl rfl rfl ?_
    refine v_goto (tgt := 2) hx dX1_followChains_16 (by decide) ?_
    exact hrec2 a0 (x1 + 1) w_3 h hl_7
theorem vX1_followChains_l2 {x : CT} (hx : CX x cX1_followChains RX1 rmX1_followChains none) {w0 : Wd} (hq : RV x rmX1_followChains w0) : ∀ (n : Nat) (a0 : Nat) (x1 : Int32) (w : Wd), (zL w 1 a0 = true) → fX1_followChains_l2  n a0 x1 w = some w0 → V x 2 [some (.ref a0), some (.int x1)] [] (Rp (xD x) w) 0 0 := by
  intro n
  induction n with
  | zero => intro a0 x1 w hl0 h; cases h
  | succ n ih =>
    intro a0 x1 w hl0 h
    exact vX1_followChains_b2 hx hq  (fun a0 x1 w h hl0 => ih a0 x1 w hl0 h) hl0 h
theorem vX1_followChains {x : CT} (hx : CX x cX1_followChains RX1 rmX1_followChains none) {w0 : Wd} {w : Wd} (hq : RV x rmX1_followChains w0) (a0 : Nat) (hl0 : zL w 1 a0 = true) (h : fX1_followChains a0 w = some w0) : V x 0 [some (.ref a0), none] [] (Rp (xD x) w) 0 0 := by
  unfold fX1_followChains at h
  refine v_iconst (pc' := 1) (v := 0) hx dX1_followChains_0 (by decide) rfl ?_
  refine v_istore_n (pc' := 2) (L' := [some (.ref a0), some (.int 0)]) hx dX1_followChains_1 rfl rfl (Nat.le_of_ble_eq_true rfl) ?_
  exact vX1_followChains_l2 hx hq 1000 a0 0 w hl0 h
theorem ctX1_followChains (l : Launch) (D : DD) (w : Wd) (G : GT) (sz : Nat) (hR : Rp D w G sz) (a0 : Nat) (hl0 : zL w 1 a0 = true) {w0 : Wd} (h : fX1_followChains a0 w = some w0) : MetV l yX1_followChains (WS yX1_followChains cX1_followChains 2 none) rmX1_followChains D [.ref a0] G sz w0 := by
  refine MetV_ofV (own := RX1) (P := Rp D w) hR (by decide) rfl (by simp [Value.category]) (Nat.le_of_ble_eq_true rfl) (fun x hx hq hD hl => ?_)
  subst hD
  exact vX1_followChains hx hq a0 hl0 h
